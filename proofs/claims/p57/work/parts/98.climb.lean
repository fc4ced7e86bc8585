/-! longest paths: the class's climbing -/
def oP (B : HP) (L : Nat) : Prop := hK B L = (14, 0) ∧ hR B L 0 = some (L + 1) ∧ hR B L 1 = some (L + 2) ∧ hK B (L + 1) = (1, 6) ∧ hK B (L + 2) = (1, 10)
def hbd (M : Int) (f : Nat → Int) : Prop := ∀ k, k < 6 → 0 ≤ f k ∧ f k ≤ M
theorem hbd.up {M N : Int} {f : Nat → Int} (h : hbd M f) (e : M ≤ N) : hbd N f := fun k hk => ⟨(h k hk).1, by have := (h k hk).2; omega⟩
theorem riM_bd {M N : Int} {s : HT} {x : Nat} {v : Int} (h : hbd M s.1) (e : M ≤ N) (hv : v ≤ N) : hbd N (riM s x v).1 := by
  unfold riM
  split
  · rename_i q
    intro k hk
    have a := h k hk
    show 0 ≤ upf s.1 x v k ∧ upf s.1 x v k ≤ N
    unfold upf
    split
    · rename_i z; subst z; exact ⟨by omega, hv⟩
    · exact ⟨a.1, by omega⟩
  · exact h.up e
theorem riM_fl (f : Nat → Int) (z : Int) (x : Nat) (v : Int) : riM (f, z) x v = ((riM (f, 0) x v).1, if (riM (f, 0) x v).2 = 0 then z else 1) := by
  unfold riM
  by_cases h : f x < v
  · rw [if_pos (show ((f, z) : HT).1 x < v from h), if_pos (show ((f, 0) : HT).1 x < v from h)]
    rfl
  · rw [if_neg (show ¬ ((f, z) : HT).1 x < v from h), if_neg (show ¬ ((f, 0) : HT).1 x < v from h)]
    rfl
theorem alM_fl (K : Int) (F S : Nat) (g sd : Int) (f : Nat → Int) (z : Int) : alM K F S g sd (f, z) = ((alM K F S g sd (f, 0)).1, if (alM K F S g sd (f, 0)).2 = 0 then z else 1) := by
  unfold alM
  by_cases k1 : K = 60
  · rw [if_pos k1, if_pos k1]; exact riM_fl f z S (f F + g)
  · rw [if_neg k1, if_neg k1]
    by_cases k2 : K = 61
    · rw [if_pos k2, if_pos k2]
      show riM (riM (f, z) S (f F + g)) F ((riM (f, z) S (f F + g)).1 S - g) = _
      rw [riM_fl f z S (f F + g)]
      show _ = ((riM (riM (f, 0) S (f F + g)) F ((riM (f, 0) S (f F + g)).1 S - g)).1, if (riM (riM (f, 0) S (f F + g)) F ((riM (f, 0) S (f F + g)).1 S - g)).2 = 0 then z else 1)
      generalize e : riM (f, 0) S (f F + g) = t
      obtain ⟨t1, t2⟩ := t
      show riM (t1, if t2 = 0 then z else 1) F (t1 S - g) = ((riM (t1, t2) F (t1 S - g)).1, if (riM (t1, t2) F (t1 S - g)).2 = 0 then z else 1)
      rw [riM_fl t1 (if t2 = 0 then z else 1), riM_fl t1 t2]
      show _ = ((riM (t1, 0) F (t1 S - g)).1, if (if (riM (t1, 0) F (t1 S - g)).2 = 0 then t2 else 1) = 0 then z else 1)
      by_cases h : (riM (t1, 0) F (t1 S - g)).2 = 0
      · rw [if_pos h, if_pos h]
      · rw [if_neg h, if_neg h, if_neg (by omega)]
    · rw [if_neg k2, if_neg k2]
      by_cases k3 : sd = 1
      · rw [if_pos k3, if_pos k3]; exact riM_fl f z S (f F + g)
      · rw [if_neg k3, if_neg k3]
        by_cases k4 : sd = 2
        · rw [if_pos k4, if_pos k4]; exact riM_fl f z F (f S + g)
        · rw [if_neg k4, if_neg k4]; rfl
theorem alM_bd {K : Int} {F S : Nat} {g sd : Int} {s : HT} {M : Int} (h : hbd M s.1) (hF : F < 6) (hS : S < 6) (hg : 0 ≤ g ∧ g ≤ 20) : hbd (M + 20) (alM K F S g sd s).1 := by
  have a := h F hF
  have b := h S hS
  have r1 : hbd (M + 20) (riM s S (s.1 F + g)).1 := riM_bd h (by omega) (by omega)
  have r2 : hbd (M + 20) (riM s F (s.1 S + g)).1 := riM_bd h (by omega) (by omega)
  have c1 := r1 S hS
  have r3 : hbd (M + 20) (riM (riM s S (s.1 F + g)) F ((riM s S (s.1 F + g)).1 S - g)).1 := riM_bd r1 (by omega) (by omega)
  unfold alM
  split
  · exact r1
  · split
    · exact r3
    · split
      · exact r1
      · split
        · exact r2
        · exact h.up (by omega)

theorem s_L_raise {d : Nat} {B : HP} {I : IM} {Post : Out → HP → Prop} {L : Nat} {x v : Int} (hb : oP B L) (hx : 0 ≤ x ∧ x < 6) (hv : r32 v) (hh : r32 (I (L + 1) x.toNat)) (hp : ∀ (J : IM) (z : Int), riM (I (L + 1), 0) x.toNat v = (J (L + 1), z) → (z = 0 ∨ z = 1) → (∀ a, a ≠ L + 1 → J a = I a) → Post (.inl (some (.int (i3 z)))) (wI B J)) : Sp (d + 1) k_X4_raise [.ref L, .int (i3 (x)), .int (i3 (v))] (wI B I) Post := by
  refine Sp_intro md_X4_raise rfl rfl (fun G hG => ?_)
  obtain ⟨k1, k2, k3, k4, k5⟩ := hb
  show G 0 [some (.ref L), some (.int (i3 (x))), some (.int (i3 (v)))] [] (wI B I)
  refine q_aload_n hG rfl rfl ?_
  refine q_getR hG rfl (by assumption) (by assumption) ?_
  refine q_iload_n hG rfl rfl ?_
  refine q_iald hG rfl (by assumption) ⟨by omega, by omega, by omega⟩ ?_
  refine q_iload_n hG rfl rfl ?_
  refine q_icmp_lt hG rfl (hh) (hv) (fun hc7 => ?_) (fun hc7 => ?_)
  · refine q_aload_n hG rfl rfl ?_
    refine q_getR hG rfl (by assumption) (by assumption) ?_
    refine q_iload_n hG rfl rfl ?_
    refine q_iload_n hG rfl rfl ?_
    refine q_iast hG rfl (by assumption) ⟨by omega, by omega, by omega⟩ ?_
    refine q_iconst (v := 1) hG rfl rfl ?_
    refine q_iret5 hG rfl rfl (by decide) ?_
    refine hp _ 1 ?_ (Or.inr rfl) (fun a ha => st_row _ _ ha)
    unfold riM
    rw [if_pos (show ((I (L + 1), (0 : Int)) : HT).1 x.toNat < v by show I (L + 1) x.toNat < v; omega), st_fn]
  · refine q_iconst (v := 0) hG rfl rfl ?_
    refine q_iret5 hG rfl rfl (by decide) ?_
    refine hp I 0 ?_ (Or.inl rfl) (fun a _ => rfl)
    unfold riM
    rw [if_neg (show ¬ ((I (L + 1), (0 : Int)) : HT).1 x.toNat < v by show ¬ I (L + 1) x.toNat < v; omega)]
theorem s_L_along {d : Nat} {B : HP} {I : IM} {Post : Out → HP → Prop} {L c p : Nat} {M : Int} (hb : oP B L) (hc : oC B c) (hp10 : p < 10) (hF : 0 ≤ I (c + 3) p ∧ I (c + 3) p < 6) (hS2 : 0 ≤ I (c + 4) p ∧ I (c + 4) p < 6) (hg : 0 ≤ I (c + 5) p ∧ I (c + 5) p ≤ 20) (hK2 : 0 ≤ I (c + 2) p ∧ I (c + 2) p < 65536) (hM : 0 ≤ M ∧ M ≤ 3000) (hS : hbd M (I (L + 1))) (hsd : 0 ≤ I (L + 2) p ∧ I (L + 2) p ≤ 2) (hp : ∀ (J : IM) (v : Int), alM (I (c + 2) p) (I (c + 3) p).toNat (I (c + 4) p).toNat (I (c + 5) p) (I (L + 2) p) (I (L + 1), 0) = (J (L + 1), v) → (v = 0 ∨ v = 1) → (∀ a, a ≠ L + 1 → J a = I a) → Post (.inl (some (.int (i3 v)))) (wI B J)) : Sp (d + 2) k_X4_climbAlong [.ref L, .ref c, .int (i3 ((p : Int)))] (wI B I) Post := by
  refine Sp_intro md_X4_climbAlong rfl rfl (fun G hG => ?_)
  have hb0 := hb
  obtain ⟨k1, k2, k3, k4, k5⟩ := hb
  obtain ⟨m1, m2, m3, m4, m5, m6, m7, m8, m9, m10, m11⟩ := hc
  have q1 := hS (I (c + 3) p).toNat (by omega)
  have q2 := hS (I (c + 4) p).toNat (by omega)
  show G 0 [some (.ref L), some (.ref c), some (.int (i3 ((p : Int)))), none, none, none, none] [] (wI B I)
  refine q_aload_n hG rfl rfl ?_
  refine q_getR hG rfl (by assumption) (by assumption) ?_
  refine q_iload_n hG rfl rfl ?_
  refine q_ialdv (v := (I (c + 3) p)) hG rfl (by assumption) ⟨by omega, by omega, by omega⟩ rfl ?_
  refine q_istore_n hG rfl rfl ?_
  refine q_aload_n hG rfl rfl ?_
  refine q_getR hG rfl (by assumption) (by assumption) ?_
  refine q_iload_n hG rfl rfl ?_
  refine q_ialdv (v := (I (c + 4) p)) hG rfl (by assumption) ⟨by omega, by omega, by omega⟩ rfl ?_
  refine q_istore hG rfl rfl ?_
  refine q_aload_n hG rfl rfl ?_
  refine q_getR hG rfl (by assumption) (by assumption) ?_
  refine q_iload_n hG rfl rfl ?_
  refine q_ialdv (v := (I (c + 5) p)) hG rfl (by assumption) ⟨by omega, by omega, by omega⟩ rfl ?_
  refine q_istore hG rfl rfl ?_
  refine q_aload_n hG rfl rfl ?_
  refine q_getR hG rfl (by assumption) (by assumption) ?_
  refine q_iload_n hG rfl rfl ?_
  refine q_caldv (v := (I (c + 2) p)) hG rfl (by assumption) ⟨by omega, by omega, by omega⟩ rfl ?_
  refine q_lsw hG rfl ⟨by omega, by omega⟩ rfl ?_
  refine ⟨fun hs29 => ?_, fun hs29_60 => ?_⟩
  · refine q_aload_n hG rfl rfl ?_
    refine q_iload hG rfl rfl ?_
    refine q_aload_n hG rfl rfl ?_
    refine q_getR hG rfl (by assumption) (by assumption) ?_
    refine q_iload_n hG rfl rfl ?_
    refine q_iald hG rfl (by assumption) ⟨by omega, by omega, by omega⟩ ?_
    refine q_iload hG rfl rfl ?_
    refine q_iadd hG rfl ?_
    refine q_callV6 hG rfl rfl rfl (by assumption) (s_L_raise hb0 hS2 ⟨by omega, by omega⟩ ⟨by omega, by omega⟩ (fun J1 z1 e1 hz1 hf1 => ?_))
    refine q_iret5 hG rfl rfl (by omega) ?_
    refine hp J1 z1 ?_ hz1 hf1
    unfold alM
    rw [if_pos (show (I (c + 2) p) = 60 by omega)]
    exact e1
  refine ⟨fun hs29 => ?_, fun hs29_61 => ?_⟩
  · refine q_aload_n hG rfl rfl ?_
    refine q_iload hG rfl rfl ?_
    refine q_aload_n hG rfl rfl ?_
    refine q_getR hG rfl (by assumption) (by assumption) ?_
    refine q_iload_n hG rfl rfl ?_
    refine q_iald hG rfl (by assumption) ⟨by omega, by omega, by omega⟩ ?_
    refine q_iload hG rfl rfl ?_
    refine q_iadd hG rfl ?_
    refine q_callV6 hG rfl rfl rfl (by assumption) (s_L_raise hb0 hS2 ⟨by omega, by omega⟩ ⟨by omega, by omega⟩ (fun J1 z1 e1 hz1 hf1 => ?_))
    have r1 : hbd (M + 20) (J1 (L + 1)) := by
      have q := riM_bd (N := M + 20) (s := (I (L + 1), 0)) (x := (I (c + 4) p).toNat) (v := I (L + 1) (I (c + 3) p).toNat + (I (c + 5) p)) hS (by omega) (by omega)
      rw [e1] at q
      exact q
    have q3 := r1 (I (c + 3) p).toNat (by omega)
    have q4 := r1 (I (c + 4) p).toNat (by omega)
    refine q_istore hG rfl rfl ?_
    refine q_aload_n hG rfl rfl ?_
    refine q_iload_n hG rfl rfl ?_
    refine q_aload_n hG rfl rfl ?_
    refine q_getR hG rfl (by assumption) (by assumption) ?_
    refine q_iload hG rfl rfl ?_
    refine q_iald hG rfl (by assumption) ⟨by omega, by omega, by omega⟩ ?_
    refine q_iload hG rfl rfl ?_
    refine q_isub hG rfl ?_
    refine q_callV6 hG rfl rfl rfl (by assumption) (s_L_raise hb0 hF ⟨by omega, by omega⟩ ⟨by omega, by omega⟩ (fun J2 z2 e2 hz2 hf2 => ?_))
    refine q_if_ne hG rfl ⟨by omega, by omega⟩ (fun hc104 => ?_) (fun hc104 => ?_)
    · refine q_iconst (v := 1) hG rfl rfl ?_
      refine q_goto hG rfl ?_
      refine q_iret5 hG rfl rfl (by decide) ?_
      refine hp J2 1 ?_ (by omega) (fun a ha => (hf2 a ha).trans (hf1 a ha))
      unfold alM
      rw [if_neg (show ¬ (I (c + 2) p) = 60 by omega), if_pos (show (I (c + 2) p) = 61 by omega)]
      show riM (riM (I (L + 1), 0) (I (c + 4) p).toNat (I (L + 1) (I (c + 3) p).toNat + (I (c + 5) p))) (I (c + 3) p).toNat ((riM (I (L + 1), 0) (I (c + 4) p).toNat (I (L + 1) (I (c + 3) p).toNat + (I (c + 5) p))).1 (I (c + 4) p).toNat - (I (c + 5) p)) = _
      rw [e1]
      show riM (J1 (L + 1), z1) (I (c + 3) p).toNat (J1 (L + 1) (I (c + 4) p).toNat - (I (c + 5) p)) = _
      rw [riM_fl, e2]
      congr 1
      show (if z2 = 0 then z1 else 1) = _
      split <;> omega
    · refine q_iload hG rfl rfl ?_
      refine q_if_eq hG rfl ⟨by omega, by omega⟩ (fun hc109 => ?_) (fun hc109 => ?_)
      · refine q_iconst (v := 0) hG rfl rfl ?_
        refine q_iret5 hG rfl rfl (by decide) ?_
        refine hp J2 0 ?_ (by omega) (fun a ha => (hf2 a ha).trans (hf1 a ha))
        unfold alM
        rw [if_neg (show ¬ (I (c + 2) p) = 60 by omega), if_pos (show (I (c + 2) p) = 61 by omega)]
        show riM (riM (I (L + 1), 0) (I (c + 4) p).toNat (I (L + 1) (I (c + 3) p).toNat + (I (c + 5) p))) (I (c + 3) p).toNat ((riM (I (L + 1), 0) (I (c + 4) p).toNat (I (L + 1) (I (c + 3) p).toNat + (I (c + 5) p))).1 (I (c + 4) p).toNat - (I (c + 5) p)) = _
        rw [e1]
        show riM (J1 (L + 1), z1) (I (c + 3) p).toNat (J1 (L + 1) (I (c + 4) p).toNat - (I (c + 5) p)) = _
        rw [riM_fl, e2]
        congr 1
        show (if z2 = 0 then z1 else 1) = _
        split <;> omega
      · refine q_iconst (v := 1) hG rfl rfl ?_
        refine q_goto hG rfl ?_
        refine q_iret5 hG rfl rfl (by decide) ?_
        refine hp J2 1 ?_ (by omega) (fun a ha => (hf2 a ha).trans (hf1 a ha))
        unfold alM
        rw [if_neg (show ¬ (I (c + 2) p) = 60 by omega), if_pos (show (I (c + 2) p) = 61 by omega)]
        show riM (riM (I (L + 1), 0) (I (c + 4) p).toNat (I (L + 1) (I (c + 3) p).toNat + (I (c + 5) p))) (I (c + 3) p).toNat ((riM (I (L + 1), 0) (I (c + 4) p).toNat (I (L + 1) (I (c + 3) p).toNat + (I (c + 5) p))).1 (I (c + 4) p).toNat - (I (c + 5) p)) = _
        rw [e1]
        show riM (J1 (L + 1), z1) (I (c + 3) p).toNat (J1 (L + 1) (I (c + 4) p).toNat - (I (c + 5) p)) = _
        rw [riM_fl, e2]
        congr 1
        show (if z2 = 0 then z1 else 1) = _
        split <;> omega
  refine q_aload_n hG rfl rfl ?_
  refine q_getR hG rfl (by assumption) (by assumption) ?_
  refine q_iload_n hG rfl rfl ?_
  refine q_ialdv (v := (I (L + 2) p)) hG rfl (by assumption) ⟨by omega, by omega, by omega⟩ rfl ?_
  refine q_iconst (v := 1) hG rfl rfl ?_
  refine q_icmp_ne hG rfl ⟨by omega, by omega⟩ ⟨by omega, by omega⟩ (fun hc125 => ?_) (fun hc125 => ?_)
  · refine q_aload_n hG rfl rfl ?_
    refine q_getR hG rfl (by assumption) (by assumption) ?_
    refine q_iload_n hG rfl rfl ?_
    refine q_ialdv (v := (I (L + 2) p)) hG rfl (by assumption) ⟨by omega, by omega, by omega⟩ rfl ?_
    refine q_iconst (v := 2) hG rfl rfl ?_
    refine q_icmp_ne hG rfl ⟨by omega, by omega⟩ ⟨by omega, by omega⟩ (fun hc153 => ?_) (fun hc153 => ?_)
    · refine q_iconst (v := 0) hG rfl rfl ?_
      refine q_iret5 hG rfl rfl (by decide) ?_
      refine hp I 0 ?_ (Or.inl rfl) (fun a _ => rfl)
      unfold alM
      rw [if_neg (show ¬ (I (c + 2) p) = 60 by omega), if_neg (show ¬ (I (c + 2) p) = 61 by omega), if_neg (show ¬ (I (L + 2) p) = 1 by omega), if_neg (show ¬ (I (L + 2) p) = 2 by omega)]
    · refine q_aload_n hG rfl rfl ?_
      refine q_iload_n hG rfl rfl ?_
      refine q_aload_n hG rfl rfl ?_
      refine q_getR hG rfl (by assumption) (by assumption) ?_
      refine q_iload hG rfl rfl ?_
      refine q_iald hG rfl (by assumption) ⟨by omega, by omega, by omega⟩ ?_
      refine q_iload hG rfl rfl ?_
      refine q_iadd hG rfl ?_
      refine q_callV6 hG rfl rfl rfl (by assumption) (s_L_raise hb0 hF ⟨by omega, by omega⟩ ⟨by omega, by omega⟩ (fun J1 z1 e1 hz1 hf1 => ?_))
      refine q_if_eq hG rfl ⟨by omega, by omega⟩ (fun hc171 => ?_) (fun hc171 => ?_)
      · refine q_iconst (v := 0) hG rfl rfl ?_
        refine q_iret5 hG rfl rfl (by decide) ?_
        refine hp J1 0 ?_ (by omega) hf1
        unfold alM
        rw [if_neg (show ¬ (I (c + 2) p) = 60 by omega), if_neg (show ¬ (I (c + 2) p) = 61 by omega), if_neg (show ¬ (I (L + 2) p) = 1 by omega), if_pos (show (I (L + 2) p) = 2 by omega)]
        rw [show z1 = 0 by omega] at e1
        exact e1
      · refine q_iconst (v := 1) hG rfl rfl ?_
        refine q_goto hG rfl ?_
        refine q_iret5 hG rfl rfl (by decide) ?_
        refine hp J1 1 ?_ (by omega) hf1
        unfold alM
        rw [if_neg (show ¬ (I (c + 2) p) = 60 by omega), if_neg (show ¬ (I (c + 2) p) = 61 by omega), if_neg (show ¬ (I (L + 2) p) = 1 by omega), if_pos (show (I (L + 2) p) = 2 by omega)]
        rw [show z1 = 1 by omega] at e1
        exact e1
  · refine q_aload_n hG rfl rfl ?_
    refine q_iload hG rfl rfl ?_
    refine q_aload_n hG rfl rfl ?_
    refine q_getR hG rfl (by assumption) (by assumption) ?_
    refine q_iload_n hG rfl rfl ?_
    refine q_iald hG rfl (by assumption) ⟨by omega, by omega, by omega⟩ ?_
    refine q_iload hG rfl rfl ?_
    refine q_iadd hG rfl ?_
    refine q_callV6 hG rfl rfl rfl (by assumption) (s_L_raise hb0 hS2 ⟨by omega, by omega⟩ ⟨by omega, by omega⟩ (fun J1 z1 e1 hz1 hf1 => ?_))
    refine q_if_ne hG rfl ⟨by omega, by omega⟩ (fun hc143 => ?_) (fun hc143 => ?_)
    · refine q_iconst (v := 1) hG rfl rfl ?_
      refine q_goto hG rfl ?_
      refine q_iret5 hG rfl rfl (by decide) ?_
      refine hp J1 1 ?_ (by omega) hf1
      unfold alM
      rw [if_neg (show ¬ (I (c + 2) p) = 60 by omega), if_neg (show ¬ (I (c + 2) p) = 61 by omega), if_pos (show (I (L + 2) p) = 1 by omega)]
      rw [show z1 = 1 by omega] at e1
      exact e1
    · refine q_aload_n hG rfl rfl ?_
      refine q_getR hG rfl (by assumption) (by assumption) ?_
      refine q_iload_n hG rfl rfl ?_
      refine q_ialdv (v := I (L + 2) p) hG rfl (by assumption) ⟨by omega, by omega, by omega⟩ (by show J1 (L + 2) p = _; rw [hf1 _ (by omega)]) ?_
      refine q_iconst (v := 2) hG rfl rfl ?_
      refine q_icmp_ne hG rfl ⟨by omega, by omega⟩ ⟨by omega, by omega⟩ (fun hc153 => ?_) (fun hc153 => ?_)
      · refine q_iconst (v := 0) hG rfl rfl ?_
        refine q_iret5 hG rfl rfl (by decide) ?_
        refine hp J1 0 ?_ (by omega) hf1
        unfold alM
        rw [if_neg (show ¬ (I (c + 2) p) = 60 by omega), if_neg (show ¬ (I (c + 2) p) = 61 by omega), if_pos (show (I (L + 2) p) = 1 by omega)]
        rw [show z1 = 0 by omega] at e1
        exact e1
      · refine q_aload_n hG rfl rfl ?_
        refine q_iload_n hG rfl rfl ?_
        refine q_aload_n hG rfl rfl ?_
        refine q_getR hG rfl (by assumption) (by assumption) ?_
        refine q_iload hG rfl rfl ?_
        refine q_iald hG rfl (by assumption) ⟨by omega, by omega, by omega⟩ ?_
        refine q_iload hG rfl rfl ?_
        refine q_iadd hG rfl ?_
        refine q_callV6 hG rfl rfl rfl (by assumption) (s_L_raise hb0 hF ⟨by omega, by omega⟩ ⟨by omega, by omega⟩ (fun J1 z1 e1 hz1 hf1 => ?_))
        refine q_if_eq hG rfl ⟨by omega, by omega⟩ (fun hc171 => ?_) (fun hc171 => ?_)
        · refine q_iconst (v := 0) hG rfl rfl ?_
          refine q_iret5 hG rfl rfl (by decide) ?_
          exfalso
          omega
        · refine q_iconst (v := 1) hG rfl rfl ?_
          refine q_goto hG rfl ?_
          refine q_iret5 hG rfl rfl (by decide) ?_
          exfalso
          omega
theorem s_L_once {d : Nat} {B : HP} {I : IM} {Post : Out → HP → Prop} {L c : Nat} {M : Int} (hb : oP B L) (hc : oC B c) (hct : c + 5 < L + 1 ∨ L + 2 < c) (hcf : cWF I c) (hM : 0 ≤ M ∧ M ≤ 2000) (hS : hbd M (I (L + 1))) (hsd : ∀ p, p < 10 → 0 ≤ I (L + 2) p ∧ I (L + 2) p ≤ 2) (hp : ∀ (J : IM) (v : Int), onM (cnI I c) (I (L + 2)) (I c 0).toNat 0 (I (L + 1), 0) = (J (L + 1), v) → (v = 0 ∨ v = 1) → hbd (M + 200) (J (L + 1)) → (∀ a, a ≠ L + 1 → J a = I a) → Post (.inl (some (.int (i3 v)))) (wI B J)) : Sp (d + 3) k_X4_climbOnce [.ref L, .ref c] (wI B I) Post := by
  refine Sp_intro md_X4_climbOnce rfl rfl (fun G hG => ?_)
  have hb0 := hb
  have hc0 := hc
  obtain ⟨k1, k2, k3, k4, k5⟩ := hb
  obtain ⟨m1, m2, m3, m4, m5, m6, m7, m8, m9, m10, m11⟩ := hc
  have hcf0 := hcf
  obtain ⟨hn, hcf⟩ := hcf
  have lp : ∀ (mz : Nat) (k : Nat) (J : IM) (z : Int), (I c 0).toNat - k = mz → k ≤ (I c 0).toNat → (z = 0 ∨ z = 1) → (∀ a, a ≠ L + 1 → J a = I a) → hbd (M + 20 * k) (J (L + 1)) → onM (cnI I c) (I (L + 2)) ((I c 0).toNat - k) k (J (L + 1), z) = onM (cnI I c) (I (L + 2)) (I c 0).toNat 0 (I (L + 1), 0) → G 4 [some (.ref L), some (.ref c), some (.int (i3 z)), some (.int (i3 (k : Int)))] [] (wI B J) := by
    intro mz
    induction mz using Nat.strongRecOn with
    | ind mz ih =>
      intro k J z hme hk hz hfr hbd2 hon
      refine q_iload_n hG rfl rfl ?_
      refine q_aload_n hG rfl rfl ?_
      refine q_getI0v (v := I c 0) hG rfl (by assumption) (by show J c 0 = _; rw [hfr c (by omega)]) ?_
      refine q_icmp_ge hG rfl ⟨by omega, by omega⟩ ⟨by omega, by omega⟩ (fun hc9 => ?_) (fun hc9 => ?_)
      · refine q_iload_n hG rfl rfl ?_
        refine q_iret5 hG rfl rfl (by omega) ?_
        refine hp J z ?_ hz (hbd2.up (by omega)) hfr
        rw [← hon, show (I c 0).toNat - k = 0 by omega]
        rfl
      · obtain ⟨hF, hS2, hg, hK2, -⟩ := hcf k (by omega)
        have eK2 : J (c + 2) k = I (c + 2) k := by rw [hfr (c + 2) (by omega)]
        have eF2 : J (c + 3) k = I (c + 3) k := by rw [hfr (c + 3) (by omega)]
        have eS2 : J (c + 4) k = I (c + 4) k := by rw [hfr (c + 4) (by omega)]
        have eG2 : J (c + 5) k = I (c + 5) k := by rw [hfr (c + 5) (by omega)]
        have eD2 : J (L + 2) k = I (L + 2) k := by rw [hfr (L + 2) (by omega)]
        have hk10 : k < 10 := by omega
        have hsk := hsd k hk10
        refine q_aload_n hG rfl rfl ?_
        refine q_aload_n hG rfl rfl ?_
        refine q_iload_n hG rfl rfl ?_
        refine q_callV6 hG rfl rfl rfl (by assumption) (s_L_along (p := k) (M := M + 20 * k) hb0 hc0 hk10 (by rw [eF2]; exact hF) (by rw [eS2]; exact hS2) (by rw [eG2]; exact hg) (by rw [eK2]; omega) ⟨by omega, by omega⟩ hbd2 (by rw [eD2]; exact hsk) (fun J2 v e1 hv h2 => ?_))
        have hfr2 : ∀ a, a ≠ L + 1 → J2 a = I a := fun a ha => (h2 a ha).trans (hfr a ha)
        rw [eK2, eF2, eS2, eG2, eD2] at e1
        have hb3 : hbd (M + 20 * ((k + 1 : Nat) : Int)) (J2 (L + 1)) := by
          have q := alM_bd (K := I (c + 2) k) (sd := I (L + 2) k) (s := (J (L + 1), 0)) hbd2 (show (I (c + 3) k).toNat < 6 by omega) (show (I (c + 4) k).toNat < 6 by omega) hg
          rw [e1] at q
          exact q.up (by omega)
        have hst : ∀ w : Int, (if v = 0 then z else 1) = w → onM (cnI I c) (I (L + 2)) ((I c 0).toNat - (k + 1)) (k + 1) (J2 (L + 1), w) = onM (cnI I c) (I (L + 2)) (I c 0).toNat 0 (I (L + 1), 0) := by
          intro w hw
          rw [← hon, show (I c 0).toNat - k = (I c 0).toNat - (k + 1) + 1 by omega]
          show _ = onM (cnI I c) (I (L + 2)) ((I c 0).toNat - (k + 1)) (k + 1) (alM (I (c + 2) k) (I (c + 3) k).toNat (I (c + 4) k).toNat (I (c + 5) k) (I (L + 2) k) (J (L + 1), z))
          rw [alM_fl _ _ _ _ _ _ z, e1]
          show _ = onM (cnI I c) (I (L + 2)) ((I c 0).toNat - (k + 1)) (k + 1) (J2 (L + 1), if v = 0 then z else 1)
          rw [hw]
        refine q_if_eq hG rfl ⟨by omega, by omega⟩ (fun hc18 => ?_) (fun hc18 => ?_)
        · refine q_iinc (c := 1) hG rfl rfl rfl rfl ?_
          refine q_goto hG rfl ?_
          exact ih _ (by omega) (k + 1) J2 z rfl (by omega) hz hfr2 hb3 (hst z (if_pos (by omega)))
        · refine q_iconst (v := 1) hG rfl rfl ?_
          refine q_istore_n hG rfl rfl ?_
          refine q_iinc (c := 1) hG rfl rfl rfl rfl ?_
          refine q_goto hG rfl ?_
          exact ih _ (by omega) (k + 1) J2 1 rfl (by omega) (Or.inr rfl) hfr2 hb3 (hst 1 (if_neg (by omega)))
  show G 0 [some (.ref L), some (.ref c), none, none] [] (wI B I)
  refine q_iconst (v := 0) hG rfl rfl ?_
  refine q_istore_n hG rfl rfl ?_
  refine q_iconst (v := 0) hG rfl rfl ?_
  refine q_istore_n hG rfl rfl ?_
  exact lp _ 0 I 0 rfl (by omega) (Or.inl rfl) (fun a _ => rfl) (hS.up (by omega)) rfl
def cpR (I : IM) (b L : Nat) : Nat → Int := fun j => if j < 6 then I (b + 1) j else I (L + 1) j
theorem clM_st {c : CN} {sd : Nat → Int} {n k : Nat} {f h : Nat → Int} {v : Int} (e : onM c sd n 0 (f, 0) = (h, v)) : clM c sd n (k + 1) f = if v = 0 then (h, v) else clM c sd n k h := by
  rw [clM, e]
theorem s_L_climb {d : Nat} {B : HP} {I : IM} {Post : Out → HP → Prop} {L c b : Nat} {x : Int} (hb : oP B L) (hc : oC B c) (hob : oB B b) (hct : c + 5 < L + 1 ∨ L + 2 < c) (hbt : b + 2 < L + 1 ∨ L + 2 < b) (hcf : cWF I c) (hS : hbd 40 (I (b + 1))) (hx : 0 ≤ x ∧ x ≤ 6) (hhi : ∀ k, k < 6 → r32 (I (b + 2) k)) (hsd : ∀ p, p < 10 → 0 ≤ I (L + 2) p ∧ I (L + 2) p ≤ 2) (p1 : ∀ J : IM, (clM (cnI I c) (I (L + 2)) (I c 0).toNat (x.toNat + 1) (cpR I b L)).2 = 0 → J (L + 1) = (clM (cnI I c) (I (L + 2)) (I c 0).toNat (x.toNat + 1) (cpR I b L)).1 → hbd 2000 (J (L + 1)) → (∀ k : Nat, (k : Int) < x → (clM (cnI I c) (I (L + 2)) (I c 0).toNat (x.toNat + 1) (cpR I b L)).1 k ≤ I (b + 2) k) → (∀ a, a ≠ L + 1 → J a = I a) → Post (.inl (some (.int (i3 1)))) (wI B J)) (p0 : ∀ J : IM, ((clM (cnI I c) (I (L + 2)) (I c 0).toNat (x.toNat + 1) (cpR I b L)).2 = 0 → ∃ k : Nat, (k : Int) < x ∧ I (b + 2) k < (clM (cnI I c) (I (L + 2)) (I c 0).toNat (x.toNat + 1) (cpR I b L)).1 k) → (∀ a, a ≠ L + 1 → J a = I a) → Post (.inl (some (.int (i3 0)))) (wI B J)) : Sp (d + 4) k_X4_climb [.ref L, .ref c, .ref b, .int (i3 (x))] (wI B I) Post := by
  refine Sp_intro md_X4_climb rfl rfl (fun G hG => ?_)
  have hb0 := hb
  have hc0 := hc
  obtain ⟨k1, k2, k3, k4, k5⟩ := hb
  obtain ⟨b1, b2, b3, b4, b5⟩ := hob
  have lq : ∀ (mz : Nat) (k : Nat) (J : IM), x.toNat - k = mz → k ≤ x.toNat → (∀ a, a ≠ L + 1 → J a = I a) → clM (cnI I c) (I (L + 2)) (I c 0).toNat (x.toNat + 1) (cpR I b L) = (J (L + 1), 0) → hbd 2000 (J (L + 1)) → (∀ j, j < k → J (L + 1) j ≤ I (b + 2) j) → G 55 [some (.ref L), some (.ref c), some (.ref b), some (.int (i3 x)), some (.int (i3 0)), some (.int (i3 (k : Int)))] [] (wI B J) := by
    intro mz
    induction mz using Nat.strongRecOn with
    | ind mz ih =>
      intro k J hme hk hfr hz0 hbd2 hle
      refine q_iload hG rfl rfl ?_
      refine q_iload_n hG rfl rfl ?_
      refine q_icmp_ge hG rfl ⟨by omega, by omega⟩ ⟨by omega, by omega⟩ (fun hc58 => ?_) (fun hc58 => ?_)
      · refine q_iconst (v := 1) hG rfl rfl ?_
        refine q_iret5 hG rfl rfl (by decide) ?_
        exact p1 J (by rw [hz0]) (by rw [hz0]) hbd2 (fun j hj => by rw [hz0]; exact hle j (by omega)) hfr
      · have q1 := hbd2 k (by omega)
        have q2 := hhi k (by omega)
        have q3 : J (b + 2) k = I (b + 2) k := by rw [hfr (b + 2) (by omega)]
        refine q_aload_n hG rfl rfl ?_
        refine q_getR hG rfl (by assumption) (by assumption) ?_
        refine q_iload hG rfl rfl ?_
        refine q_ialdv (v := J (L + 1) k) hG rfl (by assumption) ⟨by omega, by omega, by omega⟩ rfl ?_
        refine q_aload_n hG rfl rfl ?_
        refine q_getR hG rfl (by assumption) (by assumption) ?_
        refine q_iload hG rfl rfl ?_
        refine q_ialdv (v := I (b + 2) k) hG rfl (by assumption) ⟨by omega, by omega, by omega⟩ (q3) ?_
        refine q_icmp_le hG rfl ⟨by omega, by omega⟩ (q2) (fun hc75 => ?_) (fun hc75 => ?_)
        · refine q_iinc (c := 1) hG rfl rfl rfl rfl ?_
          refine q_goto hG rfl ?_
          exact ih _ (by omega) (k + 1) J rfl (by omega) hfr hz0 hbd2 (fun j hj => if e : j = k then by subst e; omega else hle j (by omega))
        · refine q_iconst (v := 0) hG rfl rfl ?_
          refine q_iret5 hG rfl rfl (by decide) ?_
          exact p0 J (fun _ => ⟨k, by omega, by rw [hz0]; show I (b + 2) k < J (L + 1) k; omega⟩) hfr
  have lp : ∀ (mz : Nat) (k : Nat) (J : IM) (z : Int), 7 - k = mz → (k : Int) ≤ x + 1 → (z = 0 ∨ z = 1) → (∀ a, a ≠ L + 1 → J a = I a) → hbd (40 + 200 * k) (J (L + 1)) → (z = 1 → clM (cnI I c) (I (L + 2)) (I c 0).toNat (x.toNat + 1 - k) (J (L + 1)) = clM (cnI I c) (I (L + 2)) (I c 0).toNat (x.toNat + 1) (cpR I b L)) → (z = 0 → clM (cnI I c) (I (L + 2)) (I c 0).toNat (x.toNat + 1) (cpR I b L) = (J (L + 1), 0)) → G 21 [some (.ref L), some (.ref c), some (.ref b), some (.int (i3 x)), some (.int (i3 z)), some (.int (i3 (k : Int)))] [] (wI B J) := by
    intro mz
    induction mz using Nat.strongRecOn with
    | ind mz ih =>
      intro k J z hme hk hz hfr hbd2 hcl1 hcl0
      have hcJ : ∀ a, c ≤ a → a ≤ c + 5 → J a = I a := fun a u v => hfr a (by omega)
      have ecn : cnI J c = cnI I c := row_cn hcJ
      have ec0 : J c 0 = I c 0 := by rw [hcJ c (by omega) (by omega)]
      have eD : J (L + 2) = I (L + 2) := hfr _ (by omega)
      refine q_iload hG rfl rfl ?_
      refine q_if_eq hG rfl ⟨by omega, by omega⟩ (fun hc23 => ?_) (fun hc23 => ?_)
      · refine q_iload hG rfl rfl ?_
        refine q_if_eq hG rfl ⟨by omega, by omega⟩ (fun hc47 => ?_) (fun hc47 => ?_)
        · refine q_iconst (v := 0) hG rfl rfl ?_
          refine q_istore hG rfl rfl ?_
          have ez : z = 0 := by omega
          subst ez
          exact lq _ 0 J rfl (by omega) hfr (by have e := hcl0 (by omega); exact e) (hbd2.up (by omega)) (fun j hj => by omega)
        · refine q_iconst (v := 0) hG rfl rfl ?_
          refine q_iret5 hG rfl rfl (by decide) ?_
          refine p0 J (fun q => ?_) hfr
          have e := hcl1 (by omega)
          rw [show x.toNat + 1 - k = 0 by omega] at e
          rw [← e] at q
          have q : (1 : Int) = 0 := q
          omega
      · refine q_iload hG rfl rfl ?_
        refine q_iload_n hG rfl rfl ?_
        refine q_icmp_gt hG rfl ⟨by omega, by omega⟩ ⟨by omega, by omega⟩ (fun hc29 => ?_) (fun hc29 => ?_)
        · refine q_iload hG rfl rfl ?_
          refine q_if_eq hG rfl ⟨by omega, by omega⟩ (fun hc47 => ?_) (fun hc47 => ?_)
          · refine q_iconst (v := 0) hG rfl rfl ?_
            refine q_istore hG rfl rfl ?_
            have ez : z = 0 := by omega
            subst ez
            exact lq _ 0 J rfl (by omega) hfr (by have e := hcl0 (by omega); exact e) (hbd2.up (by omega)) (fun j hj => by omega)
          · refine q_iconst (v := 0) hG rfl rfl ?_
            refine q_iret5 hG rfl rfl (by decide) ?_
            refine p0 J (fun q => ?_) hfr
            have e := hcl1 (by omega)
            rw [show x.toNat + 1 - k = 0 by omega] at e
            rw [← e] at q
            have q : (1 : Int) = 0 := q
            omega
        · refine q_aload_n hG rfl rfl ?_
          refine q_aload_n hG rfl rfl ?_
          refine q_callV6 hG rfl rfl rfl (by assumption) (s_L_once (M := 40 + 200 * k) hb0 hc0 hct (row_cWF hcJ hcf) ⟨by omega, by omega⟩ hbd2 (by rw [eD]; exact hsd) (fun J2 v e1 hv hb3 h2 => ?_))
          rw [ecn, ec0, eD] at e1
          have hst := hcl1 (by omega)
          refine q_istore hG rfl rfl ?_
          refine q_iinc (c := 1) hG rfl rfl rfl rfl ?_
          refine q_goto hG rfl ?_
          refine ih _ (by omega) (k + 1) J2 v rfl (by omega) hv (fun a ha => (h2 a ha).trans (hfr a ha)) (hb3.up (by omega)) (fun hv1 => ?_) (fun hv0 => ?_)
          · rw [← hst]
            rw [show x.toNat + 1 - k = x.toNat + 1 - (k + 1) + 1 by omega, clM_st e1, if_neg (by omega)]
          · rw [← hst]
            rw [show x.toNat + 1 - k = x.toNat + 1 - (k + 1) + 1 by omega, clM_st e1, if_pos hv0, hv0]
  show G 0 [some (.ref L), some (.ref c), some (.ref b), some (.int (i3 (x))), none, none] [] (wI B I)
  refine q_aload_n hG rfl rfl ?_
  refine q_getR hG rfl (by assumption) (by assumption) ?_
  refine q_iconst (v := 0) hG rfl rfl ?_
  refine q_aload_n hG rfl rfl ?_
  refine q_getR hG rfl (by assumption) (by assumption) ?_
  refine q_iconst (v := 0) hG rfl rfl ?_
  refine q_bipush (v := 6) hG rfl rfl ?_
  refine q_copyI hG rfl (by assumption) (by assumption) ⟨by omega, by omega, by omega, by omega, by omega, by omega, by omega, by omega⟩ ?_
  refine q_iconst (v := 1) hG rfl rfl ?_
  refine q_istore hG rfl rfl ?_
  refine q_iconst (v := 0) hG rfl rfl ?_
  refine q_istore hG rfl rfl ?_
  refine lp _ 0 _ 1 rfl (by omega) (Or.inr rfl) (fun a ha => cp_row _ ha) ?_ (fun _ => ?_) (fun q => by omega)
  · intro j hj
    show 0 ≤ cpM I (b + 1) 0 (L + 1) 0 6 (L + 1) j ∧ cpM I (b + 1) 0 (L + 1) 0 6 (L + 1) j ≤ _
    rw [cp_in _ hj]
    exact (hS.up (show (40 : Int) ≤ 40 + 200 * (0 : Nat) by omega)) j hj
  · show clM (cnI I c) (I (L + 2)) (I c 0).toNat (x.toNat + 1) (cpM I (b + 1) 0 (L + 1) 0 6 (L + 1)) = _
    rw [show cpM I (b + 1) 0 (L + 1) 0 6 (L + 1) = cpR I b L from funext fun j => ?_]
    unfold cpR
    by_cases h : j < 6
    · rw [if_pos h, cp_in _ h]
    · rw [if_neg h, cp_out _ (by omega)]
