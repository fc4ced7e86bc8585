/-! texts: the builder's methods -/
/-- a constant text -/
def kS (B : HP) (I : IM) (k : Nat) (l : List Int) : Prop := hK B (BIG + k) = (21, 0) ∧ hR B (BIG + k) 0 = some (BIG + (9 + k)) ∧ I (BIG + k) 1 = 0 ∧ hK B (BIG + (9 + k)) = (8, l.length) ∧ (∀ i, i < l.length → I (BIG + (9 + k)) i = l.getD i 0) ∧ chL l ∧ l.length < 100
theorem kS.row {B : HP} {I J : IM} {k : Nat} {l : List Int} (h : kS B I k l) (hr : ∀ a, BIG ≤ a → J a = I a) : kS B J k l := by
  obtain ⟨a, b, c, d, e, f⟩ := h
  exact ⟨a, b, by rw [hr _ (by omega)]; exact c, d, fun i hi => by rw [hr _ (by omega)]; exact e i hi, f⟩
theorem cp_lo (I : IM) {s sp d dp n j : Nat} (h : j < dp) : cpM I s sp d dp n d j = I d j := if_neg (fun q => by omega)
theorem cp_at (I : IM) {s sp d dp n j : Nat} (h : dp ≤ j ∧ j < dp + n) : cpM I s sp d dp n d j = I s (sp + (j - dp)) := if_pos ⟨rfl, h⟩

theorem s_J_latin {d : Nat} {B : HP} {I : IM} {Post : Out → HP → Prop} {s : Nat} (hk : hK B s = (20, 0)) (h1 : I s 1 = 0) (hp : Post (.inl (some (.int (i3 1)))) (wI B I)) : Sp (d + 1) k_J5_isLatin1_aae02 [.ref s] (wI B I) Post := by
  refine Sp_intro md_J5_isLatin1_aae02 rfl rfl (fun G hG => ?_)
  show G 0 [some (.ref s)] [] (wI B I)
  refine q_getst (v := 1) hG rfl rfl ?_
  refine q_if_eq hG rfl ⟨by omega, by omega⟩ (fun q => absurd q (by decide)) (fun _ => ?_)
  refine q_aload_n hG rfl rfl ?_
  refine q_getI4v (v := 0) hG rfl (by assumption) (h1) ?_
  refine q_if_ne hG rfl ⟨by omega, by omega⟩ (fun q => absurd q (by decide)) (fun _ => ?_)
  refine q_iconst (v := 1) hG rfl rfl ?_
  refine q_goto hG rfl ?_
  refine q_iret5 hG rfl rfl (by decide) ?_
  exact hp
theorem s_J_ens {d : Nat} {B : HP} {I : IM} {Post : Out → HP → Prop} {s v n : Nat} (ho : oS B s v n) (h1 : I s 1 = 0) {c : Int} (hc : 0 ≤ c ∧ c ≤ (n : Int)) (hp : Post (.inl none) (wI B I)) : Sp (d + 1) k_J5_ensureCapacityInternal_d00df [.ref s, .int (i3 (c))] (wI B I) Post := by
  refine Sp_intro md_J5_ensureCapacityInternal_d00df rfl rfl (fun G hG => ?_)
  have ho0 := ho
  obtain ⟨o1, o2, o3, o4, o5⟩ := ho
  show G 0 [some (.ref s), some (.int (i3 (c))), none] [] (wI B I)
  refine q_aload_n hG rfl rfl ?_
  refine q_getR hG rfl (by assumption) (by assumption) ?_
  refine q_alen hG rfl (by assumption) ⟨by decide, by decide⟩ ?_
  refine q_aload_n hG rfl rfl ?_
  refine q_getI4v (v := 0) hG rfl (by assumption) (h1) ?_
  refine q_ishr0 hG rfl ?_
  refine q_istore_n hG rfl rfl ?_
  refine q_iload_n hG rfl rfl ?_
  refine q_iload_n hG rfl rfl ?_
  refine q_isub hG rfl ?_
  refine q_if_le hG rfl ⟨by omega, by omega⟩ (fun hc14 => ?_) (fun hc14 => absurd (by omega) hc14)
  refine q_vret hG rfl ?_
  exact hp
theorem s_J_can {d : Nat} {B : HP} {I : IM} {Post : Out → HP → Prop} {c : Int} (hc : 0 ≤ c ∧ c < 128) (hp : Post (.inl (some (.int (i3 1)))) (wI B I)) : Sp (d + 1) k_J1_canEncode_fc78d [.int (i3 (c))] (wI B I) Post := by
  refine Sp_intro md_J1_canEncode_fc78d rfl rfl (fun G hG => ?_)
  show G 0 [some (.int (i3 (c)))] [] (wI B I)
  refine q_iload_n hG rfl rfl ?_
  refine q_sipush (v := 255) hG rfl rfl ?_
  refine q_icmp_gt hG rfl ⟨by omega, by omega⟩ ⟨by omega, by omega⟩ (fun hc4 => absurd hc4 (by omega)) (fun hc4 => ?_)
  refine q_iconst (v := 1) hG rfl rfl ?_
  refine q_goto hG rfl ?_
  refine q_iret5 hG rfl rfl (by decide) ?_
  exact hp
theorem s_J_app1 {d : Nat} {B : HP} {I : IM} {Post : Out → HP → Prop} {s v n : Nat} (ho : oS B s v n) {l : List Int} (ht : sbT I s v l) {c : Int} (hc : 0 ≤ c ∧ c < 128) (hr : l.length < n) (hp : ∀ J : IM, sbT J s v (l ++ [c]) → (∀ a, a ≠ s → a ≠ v → J a = I a) → Post (.inl (some (.ref s))) (wI B J)) : Sp (d + 2) k_J5_append_3fe6f [.ref s, .int (i3 (c))] (wI B I) Post := by
  refine Sp_intro md_J5_append_3fe6f rfl rfl (fun G hG => ?_)
  have ho0 := ho
  obtain ⟨o1, o2, o3, o4, o5⟩ := ho
  have ht0 := ht
  obtain ⟨t1, t3, tl, tc⟩ := ht
  show G 0 [some (.ref s), some (.int (i3 (c)))] [] (wI B I)
  refine q_aload_n hG rfl rfl ?_
  refine q_aload_n hG rfl rfl ?_
  refine q_getI0v (v := (l.length : Int)) hG rfl (by assumption) (t3) ?_
  refine q_iconst (v := 1) hG rfl rfl ?_
  refine q_iadd hG rfl ?_
  refine q_callV6 hG rfl rfl rfl (by assumption) (s_J_ens ho0 t1 ⟨by omega, by omega⟩ ?_)
  refine q_aload_n hG rfl rfl ?_
  refine q_callV6 hG rfl rfl rfl (by assumption) (s_J_latin o1 t1 ?_)
  refine q_if_eq hG rfl ⟨by omega, by omega⟩ (fun q => absurd q (by decide)) (fun _ => ?_)
  refine q_iload_n hG rfl rfl ?_
  refine q_callS0 hG rfl rfl rfl (s_J_can hc ?_)
  refine q_if_eq hG rfl ⟨by omega, by omega⟩ (fun q => absurd q (by decide)) (fun _ => ?_)
  refine q_aload_n hG rfl rfl ?_
  refine q_getR hG rfl (by assumption) (by assumption) ?_
  refine q_aload_n hG rfl rfl ?_
  refine q_dup hG rfl rfl ?_
  refine q_getI0v (v := (l.length : Int)) hG rfl (by assumption) (t3) ?_
  refine q_dup_x1 hG rfl rfl rfl ?_
  refine q_iconst (v := 1) hG rfl rfl ?_
  refine q_iadd hG rfl ?_
  refine q_putI0 hG rfl (by assumption) ?_
  refine q_iload_n hG rfl rfl ?_
  refine q_i2b hG rfl ⟨by omega, by omega⟩ ?_
  refine q_bast hG rfl (by assumption) ⟨by omega, by omega, by omega⟩ ⟨by omega, by omega⟩ ?_
  refine q_goto hG rfl ?_
  refine q_aload_n hG rfl rfl ?_
  refine q_aret hG rfl ?_
  refine hp _ (ht0.push (chL.one hc) ?_ ?_ (fun i hi => ?_) (fun i hi => ?_)) (fun a h1 h2 => by rw [st_row _ _ h2, st_row _ _ h1])
  · rw [st_row _ _ o4, st_ne _ _ (by omega)]; exact t1
  · rw [st_row _ _ o4, st_same]; rfl
  · rw [st_ne _ _ (by omega), st_row _ _ o4.symm]
  · have e0 : i = 0 := Nat.lt_one_iff.mp hi
    subst e0
    have e1 : (l.length : Int).toNat = l.length + 0 := by omega
    rw [e1, st_same]
    rfl
theorem s_J_app {d : Nat} {B : HP} {I : IM} {Post : Out → HP → Prop} {s v n : Nat} (ho : oS B s v n) {l : List Int} (ht : sbT I s v l) {c : Int} (hc : 0 ≤ c ∧ c < 128) (hr : l.length < n) (hp : ∀ J : IM, sbT J s v (l ++ [c]) → (∀ a, a ≠ s → a ≠ v → J a = I a) → Post (.inl (some (.ref s))) (wI B J)) : Sp (d + 3) k_J4_append_cf468 [.ref s, .int (i3 (c))] (wI B I) Post := by
  refine Sp_intro md_J4_append_cf468 rfl rfl (fun G hG => ?_)
  have ho0 := ho
  obtain ⟨o1, o2, o3, o4, o5⟩ := ho
  show G 0 [some (.ref s), some (.int (i3 (c)))] [] (wI B I)
  refine q_aload_n hG rfl rfl ?_
  refine q_iload_n hG rfl rfl ?_
  refine q_callI6 hG rfl rfl rfl (by assumption) (s_J_app1 ho0 ht hc hr (fun J j1 j2 => ?_))
  refine q_pop hG rfl rfl ?_
  refine q_aload_n hG rfl rfl ?_
  refine q_aret hG rfl ?_
  exact hp J j1 j2
theorem s_J_set1 {d : Nat} {B : HP} {I : IM} {Post : Out → HP → Prop} {s v n : Nat} (ho : oS B s v n) {l : List Int} (ht : sbT I s v l) (hln : l.length ≤ n) (hp : ∀ J : IM, sbT J s v [] → (∀ a, a ≠ s → J a = I a) → Post (.inl none) (wI B J)) : Sp (d + 2) k_J5_setLength_d00df [.ref s, .int (i3 (0))] (wI B I) Post := by
  refine Sp_intro md_J5_setLength_d00df rfl rfl (fun G hG => ?_)
  have ho0 := ho
  obtain ⟨o1, o2, o3, o4, o5⟩ := ho
  have ht0 := ht
  obtain ⟨t1, t3, tl, tc⟩ := ht
  show G 0 [some (.ref s), some (.int (i3 (0)))] [] (wI B I)
  refine q_iload_n hG rfl rfl ?_
  refine q_if_ge hG rfl ⟨by omega, by omega⟩ (fun _ => ?_) (fun q => absurd (by decide) q)
  refine q_aload_n hG rfl rfl ?_
  refine q_iload_n hG rfl rfl ?_
  refine q_callV6 hG rfl rfl rfl (by assumption) (s_J_ens ho0 t1 ⟨by omega, by omega⟩ ?_)
  refine q_aload_n hG rfl rfl ?_
  refine q_getI0v (v := (l.length : Int)) hG rfl (by assumption) (t3) ?_
  refine q_iload_n hG rfl rfl ?_
  refine q_icmp_ge hG rfl ⟨by omega, by omega⟩ ⟨by omega, by omega⟩ (fun hc23 => ?_) (fun hc23 => absurd (by omega) hc23)
  refine q_aload_n hG rfl rfl ?_
  refine q_getI0v (v := (l.length : Int)) hG rfl (by assumption) (t3) ?_
  refine q_iload_n hG rfl rfl ?_
  refine q_icmp_le hG rfl ⟨by omega, by omega⟩ ⟨by omega, by omega⟩ (fun hc68 => ?_) (fun hc68 => ?_)
  · refine q_aload_n hG rfl rfl ?_
    refine q_iload_n hG rfl rfl ?_
    refine q_putI0 hG rfl (by assumption) ?_
    refine q_vret hG rfl ?_
    first
    | (refine hp _ ⟨?_, st_same _ _ _ _, fun i hi => absurd hi (by simp), chL.nil⟩ (fun a h1 => by rw [st_row _ _ h1, st_row _ _ h1])
       rw [st_ne _ _ (by omega), st_ne _ _ (by omega)]; exact t1)
    | (refine hp _ ⟨?_, st_same _ _ _ _, fun i hi => absurd hi (by simp), chL.nil⟩ (fun a h1 => by rw [st_row _ _ h1])
       rw [st_ne _ _ (by omega)]; exact t1)
  · refine q_aload_n hG rfl rfl ?_
    refine q_iconst (v := 1) hG rfl rfl ?_
    refine q_putI5 hG rfl (by assumption) (by omega) ?_
    refine q_aload_n hG rfl rfl ?_
    refine q_iload_n hG rfl rfl ?_
    refine q_putI0 hG rfl (by assumption) ?_
    refine q_vret hG rfl ?_
    first
    | (refine hp _ ⟨?_, st_same _ _ _ _, fun i hi => absurd hi (by simp), chL.nil⟩ (fun a h1 => by rw [st_row _ _ h1, st_row _ _ h1])
       rw [st_ne _ _ (by omega), st_ne _ _ (by omega)]; exact t1)
    | (refine hp _ ⟨?_, st_same _ _ _ _, fun i hi => absurd hi (by simp), chL.nil⟩ (fun a h1 => by rw [st_row _ _ h1])
       rw [st_ne _ _ (by omega)]; exact t1)
theorem s_J_set {d : Nat} {B : HP} {I : IM} {Post : Out → HP → Prop} {s v n : Nat} (ho : oS B s v n) {l : List Int} (ht : sbT I s v l) (hln : l.length ≤ n) (hp : ∀ J : IM, sbT J s v [] → (∀ a, a ≠ s → J a = I a) → Post (.inl none) (wI B J)) : Sp (d + 3) k_J4_setLength_d00df [.ref s, .int (i3 (0))] (wI B I) Post := by
  refine Sp_intro md_J4_setLength_d00df rfl rfl (fun G hG => ?_)
  have ho0 := ho
  obtain ⟨o1, o2, o3, o4, o5⟩ := ho
  show G 0 [some (.ref s), some (.int (i3 (0)))] [] (wI B I)
  refine q_aload_n hG rfl rfl ?_
  refine q_iload_n hG rfl rfl ?_
  refine q_callI6 hG rfl rfl rfl (by assumption) (s_J_set1 ho0 ht hln (fun J j1 j2 => ?_))
  refine q_vret hG rfl ?_
  exact hp J j1 j2
theorem s_J_num1 {d : Nat} {B : HP} {I : IM} {Post : Out → HP → Prop} {s v n : Nat} (ho : oS B s v n) {l : List Int} (ht : sbT I s v l) {u : Nat} (hu : u < 1000000000) (hC : kC B I) (hvb : v < BIG) (hr : l.length + (decL u).length ≤ n) (hp : ∀ J : IM, sbT J s v (l ++ decL u) → (∀ a, a ≠ s → a ≠ v → J a = I a) → Post (.inl (some (.ref s))) (wI B J)) : Sp (d + 2) k_J5_append_c97b9 [.ref s, .int (i3 ((u : Int)))] (wI B I) Post := by
  refine Sp_intro md_J5_append_c97b9 rfl rfl (fun G hG => ?_)
  have ho0 := ho
  obtain ⟨o1, o2, o3, o4, o5⟩ := ho
  have ht0 := ht
  obtain ⟨t1, t3, tl, tc⟩ := ht
  show G 0 [some (.ref s), some (.int (i3 ((u : Int)))), none, none] [] (wI B I)
  refine q_aload_n hG rfl rfl ?_
  refine q_getI0v (v := (l.length : Int)) hG rfl (by assumption) (t3) ?_
  refine q_istore_n hG rfl rfl ?_
  refine q_iload_n hG rfl rfl ?_
  refine q_iload_n hG rfl rfl ?_
  refine q_callS0 hG rfl rfl rfl (s_J_size hu ?_)
  refine q_iadd hG rfl ?_
  rw [show (l.length : Int) + ((decL u).length : Int) = ((l.length + (decL u).length : Nat) : Int) by omega]
  refine q_istore_n hG rfl rfl ?_
  refine q_aload_n hG rfl rfl ?_
  refine q_iload_n hG rfl rfl ?_
  refine q_callV6 hG rfl rfl rfl (by assumption) (s_J_ens ho0 t1 ⟨by omega, by omega⟩ ?_)
  refine q_aload_n hG rfl rfl ?_
  refine q_callV6 hG rfl rfl rfl (by assumption) (s_J_latin o1 t1 ?_)
  refine q_if_eq hG rfl ⟨by omega, by omega⟩ (fun q => absurd q (by decide)) (fun _ => ?_)
  refine q_iload_n hG rfl rfl ?_
  refine q_iload_n hG rfl rfl ?_
  refine q_aload_n hG rfl rfl ?_
  refine q_getR hG rfl (by assumption) (by assumption) ?_
  refine q_callS0 hG rfl rfl rfl (s_J_chars hu o3 hvb ⟨by omega, hr, o5⟩ hC (fun J p hg => ?_))
  obtain ⟨g1, g2, g3, g4⟩ := hg
  have ep : p = l.length := by omega
  subst ep
  refine q_pop hG rfl rfl ?_
  refine q_goto hG rfl ?_
  refine q_aload_n hG rfl rfl ?_
  refine q_iload_n hG rfl rfl ?_
  refine q_putI0 hG rfl (by assumption) ?_
  refine q_aload_n hG rfl rfl ?_
  refine q_aret hG rfl ?_
  refine hp _ (ht0.push (chL.dec u) ?_ ?_ (fun i hi => ?_) (fun i hi => ?_)) (fun a h1 h2 => by rw [st_row _ _ h1]; exact g4 a h2)
  · rw [st_ne _ _ (by omega), g4 _ o4]; exact t1
  · rw [st_same]
  · rw [st_row _ _ o4.symm]; exact g3 i hi
  · rw [st_row _ _ o4.symm]; exact g2 i hi
theorem s_J_num {d : Nat} {B : HP} {I : IM} {Post : Out → HP → Prop} {s v n : Nat} (ho : oS B s v n) {l : List Int} (ht : sbT I s v l) {u : Nat} (hu : u < 1000000000) (hC : kC B I) (hvb : v < BIG) (hr : l.length + (decL u).length ≤ n) (hp : ∀ J : IM, sbT J s v (l ++ decL u) → (∀ a, a ≠ s → a ≠ v → J a = I a) → Post (.inl (some (.ref s))) (wI B J)) : Sp (d + 3) k_J4_append_bf812 [.ref s, .int (i3 ((u : Int)))] (wI B I) Post := by
  refine Sp_intro md_J4_append_bf812 rfl rfl (fun G hG => ?_)
  have ho0 := ho
  obtain ⟨o1, o2, o3, o4, o5⟩ := ho
  show G 0 [some (.ref s), some (.int (i3 ((u : Int))))] [] (wI B I)
  refine q_aload_n hG rfl rfl ?_
  refine q_iload_n hG rfl rfl ?_
  refine q_callI6 hG rfl rfl rfl (by assumption) (s_J_num1 ho0 ht hu hC hvb hr (fun J j1 j2 => ?_))
  refine q_pop hG rfl rfl ?_
  refine q_aload_n hG rfl rfl ?_
  refine q_aret hG rfl ?_
  exact hp J j1 j2
theorem s_J_coder {d : Nat} {B : HP} {I : IM} {Post : Out → HP → Prop} {k : Nat} {t : List Int} (hk : kS B I k t)  (hp : Post (.inl (some (.int (i3 0)))) (wI B I)) : Sp (d + 1) k_J0_coder_7d493 [.ref (BIG + k)] (wI B I) Post := by
  refine Sp_intro md_J0_coder_7d493 rfl rfl (fun G hG => ?_)
  have hk0 := hk
  obtain ⟨k1, k2, k3, k4, k5, k6, k7⟩ := hk
  show G 0 [some (.ref (BIG + k))] [] (wI B I)
  refine q_getst (v := 1) hG rfl rfl ?_
  refine q_if_eq hG rfl ⟨by omega, by omega⟩ (fun q => absurd q (by decide)) (fun _ => ?_)
  refine q_aload_n hG rfl rfl ?_
  refine q_getI4v (v := 0) hG rfl (by assumption) (k3) ?_
  refine q_goto hG rfl ?_
  refine q_iret4 hG rfl rfl (by decide) ?_
  exact hp
theorem s_J_slen {d : Nat} {B : HP} {I : IM} {Post : Out → HP → Prop} {k : Nat} {t : List Int} (hk : kS B I k t)  (hp : Post (.inl (some (.int (i3 (t.length : Int))))) (wI B I)) : Sp (d + 2) k_J0_length_8abf5 [.ref (BIG + k)] (wI B I) Post := by
  refine Sp_intro md_J0_length_8abf5 rfl rfl (fun G hG => ?_)
  have hk0 := hk
  obtain ⟨k1, k2, k3, k4, k5, k6, k7⟩ := hk
  show G 0 [some (.ref (BIG + k))] [] (wI B I)
  refine q_aload_n hG rfl rfl ?_
  refine q_getR hG rfl (by assumption) (by assumption) ?_
  refine q_alen hG rfl (by assumption) ⟨by decide, by decide⟩ ?_
  refine q_aload_n hG rfl rfl ?_
  refine q_callV6 hG rfl rfl rfl (by assumption) (s_J_coder hk0 ?_)
  refine q_ishr0 hG rfl ?_
  refine q_iret0 hG rfl rfl ?_
  exact hp
theorem s_J_infl {d : Nat} {B : HP} {I : IM} {Post : Out → HP → Prop} {k : Nat} {t : List Int} (hk : kS B I k t) {s : Nat} (hs : hK B s = (20, 0)) (h1 : I s 1 = 0) (hp : Post (.inl none) (wI B I)) : Sp (d + 2) k_J5_inflateIfNeededFor_a7421 [.ref s, .ref (BIG + k)] (wI B I) Post := by
  refine Sp_intro md_J5_inflateIfNeededFor_a7421 rfl rfl (fun G hG => ?_)
  have hk0 := hk
  obtain ⟨k1, k2, k3, k4, k5, k6, k7⟩ := hk
  show G 0 [some (.ref s), some (.ref (BIG + k))] [] (wI B I)
  refine q_getst (v := 1) hG rfl rfl ?_
  refine q_if_eq hG rfl ⟨by omega, by omega⟩ (fun q => absurd q (by decide)) (fun _ => ?_)
  refine q_aload_n hG rfl rfl ?_
  refine q_getI4v (v := 0) hG rfl (by assumption) (h1) ?_
  refine q_aload_n hG rfl rfl ?_
  refine q_callV6 hG rfl rfl rfl (by assumption) (s_J_coder hk0 ?_)
  refine q_icmp_eq hG rfl ⟨by omega, by omega⟩ ⟨by omega, by omega⟩ (fun _ => ?_) (fun q => absurd (by decide) q)
  refine q_vret hG rfl ?_
  exact hp
theorem s_J_bytes {d : Nat} {B : HP} {I : IM} {Post : Out → HP → Prop} {k : Nat} {t : List Int} (hk : kS B I k t) {v n p : Nat} (hv : hK B v = (4, n)) (hp9 : p + t.length ≤ n ∧ n ≤ 1000) (hp : Post (.inl none) (wI B (cpM I (BIG + (9 + k)) 0 v p t.length))) : Sp (d + 2) k_J0_getBytes_840e7 [.ref (BIG + k), .ref v, .int (i3 ((p : Int))), .int (i3 (0))] (wI B I) Post := by
  refine Sp_intro md_J0_getBytes_840e7 rfl rfl (fun G hG => ?_)
  have hk0 := hk
  obtain ⟨k1, k2, k3, k4, k5, k6, k7⟩ := hk
  show G 0 [some (.ref (BIG + k)), some (.ref v), some (.int (i3 ((p : Int)))), some (.int (i3 (0)))] [] (wI B I)
  refine q_aload_n hG rfl rfl ?_
  refine q_callV6 hG rfl rfl rfl (by assumption) (s_J_coder hk0 ?_)
  refine q_iload_n hG rfl rfl ?_
  refine q_icmp_ne hG rfl ⟨by omega, by omega⟩ ⟨by omega, by omega⟩ (fun q => absurd q (by decide)) (fun _ => ?_)
  refine q_aload_n hG rfl rfl ?_
  refine q_getR hG rfl (by assumption) (by assumption) ?_
  refine q_iconst (v := 0) hG rfl rfl ?_
  refine q_aload_n hG rfl rfl ?_
  refine q_iload_n hG rfl rfl ?_
  refine q_iload_n hG rfl rfl ?_
  refine q_ishl0 hG rfl ?_
  refine q_aload_n hG rfl rfl ?_
  refine q_getR hG rfl (by assumption) (by assumption) ?_
  refine q_alen hG rfl (by assumption) ⟨by decide, by decide⟩ ?_
  refine q_copyK hG rfl (by assumption) (by assumption) ⟨by omega, by omega, by omega, by omega, by omega, by omega, by omega, by omega⟩ (fun j hj => by have a := k6.at (i := 0 + j) (by omega); rw [show I (BIG + (9 + k)) ((0 : Int).toNat + j) = t.getD (0 + j) 0 from k5 (0 + j) (by omega)]; omega) ?_
  refine q_goto hG rfl ?_
  refine q_vret hG rfl ?_
  refine Eq.mp ?_ hp
  rw [show (0 : Int).toNat = 0 from rfl, show (p : Int).toNat = p by omega, show (t.length : Int).toNat = t.length by omega]
theorem s_J_put {d : Nat} {B : HP} {I : IM} {Post : Out → HP → Prop} {k : Nat} {t : List Int} (hk : kS B I k t) {s v n : Nat} (ho : oS B s v n) (h1 : I s 1 = 0) {p : Nat} (hp9 : p + t.length ≤ n) (hp : Post (.inl none) (wI B (cpM I (BIG + (9 + k)) 0 v p t.length))) : Sp (d + 3) k_J5_putStringAt_47b60 [.ref s, .int (i3 ((p : Int))), .ref (BIG + k)] (wI B I) Post := by
  refine Sp_intro md_J5_putStringAt_47b60 rfl rfl (fun G hG => ?_)
  have hk0 := hk
  obtain ⟨k1, k2, k3, k4, k5, k6, k7⟩ := hk
  have ho0 := ho
  obtain ⟨o1, o2, o3, o4, o5⟩ := ho
  show G 0 [some (.ref s), some (.int (i3 ((p : Int)))), some (.ref (BIG + k))] [] (wI B I)
  refine q_aload_n hG rfl rfl ?_
  refine q_aload_n hG rfl rfl ?_
  refine q_callV6 hG rfl rfl rfl (by assumption) (s_J_infl hk0 o1 h1 ?_)
  refine q_aload_n hG rfl rfl ?_
  refine q_aload_n hG rfl rfl ?_
  refine q_getR hG rfl (by assumption) (by assumption) ?_
  refine q_iload_n hG rfl rfl ?_
  refine q_aload_n hG rfl rfl ?_
  refine q_getI4v (v := 0) hG rfl (by assumption) (h1) ?_
  refine q_callV6 hG rfl rfl rfl (by assumption) (s_J_bytes hk0 o3 ⟨hp9, o5⟩ ?_)
  refine q_vret hG rfl ?_
  exact hp
theorem s_J_str1 {d : Nat} {B : HP} {I : IM} {Post : Out → HP → Prop} {k : Nat} {t : List Int} (hk : kS B I k t) {s v n : Nat} (ho : oS B s v n) {l : List Int} (ht : sbT I s v l) (hvb : v < BIG) (hsb : s < BIG) (hr : l.length + t.length ≤ n) (hp : ∀ J : IM, sbT J s v (l ++ t) → (∀ a, a ≠ s → a ≠ v → J a = I a) → Post (.inl (some (.ref s))) (wI B J)) : Sp (d + 4) k_J5_append_cf1ce [.ref s, .ref (BIG + k)] (wI B I) Post := by
  refine Sp_intro md_J5_append_cf1ce rfl rfl (fun G hG => ?_)
  have hk0 := hk
  obtain ⟨k1, k2, k3, k4, k5, k6, k7⟩ := hk
  have ho0 := ho
  obtain ⟨o1, o2, o3, o4, o5⟩ := ho
  have ht0 := ht
  obtain ⟨t1, t3, tl, tc⟩ := ht
  show G 0 [some (.ref s), some (.ref (BIG + k)), none] [] (wI B I)
  refine q_aload_n hG rfl rfl ?_
  refine q_nonnull hG rfl ?_
  refine q_aload_n hG rfl rfl ?_
  refine q_callV6 hG rfl rfl rfl (by assumption) (s_J_slen hk0 ?_)
  refine q_istore_n hG rfl rfl ?_
  refine q_aload_n hG rfl rfl ?_
  refine q_aload_n hG rfl rfl ?_
  refine q_getI0v (v := (l.length : Int)) hG rfl (by assumption) (t3) ?_
  refine q_iload_n hG rfl rfl ?_
  refine q_iadd hG rfl ?_
  refine q_callV6 hG rfl rfl rfl (by assumption) (s_J_ens ho0 t1 ⟨by omega, by omega⟩ ?_)
  refine q_aload_n hG rfl rfl ?_
  refine q_aload_n hG rfl rfl ?_
  refine q_getI0v (v := (l.length : Int)) hG rfl (by assumption) (t3) ?_
  refine q_aload_n hG rfl rfl ?_
  refine q_callV6 hG rfl rfl rfl (by assumption) (s_J_put hk0 ho0 t1 hr ?_)
  refine q_aload_n hG rfl rfl ?_
  refine q_dup hG rfl rfl ?_
  refine q_getI0v (v := (l.length : Int)) hG rfl (by assumption) (by rw [cp_row _ o4]; exact t3) ?_
  refine q_iload_n hG rfl rfl ?_
  refine q_iadd hG rfl ?_
  refine q_putI0 hG rfl (by assumption) ?_
  refine q_aload_n hG rfl rfl ?_
  refine q_aret hG rfl ?_
  refine hp _ (ht0.push k6 ?_ ?_ (fun i hi => ?_) (fun i hi => ?_)) (fun a h1 h2 => by rw [st_row _ _ h1, cp_row _ h2])
  · rw [st_ne _ _ (by omega), cp_row _ o4]; exact t1
  · rw [st_same]; omega
  · rw [st_row _ _ o4.symm, cp_lo _ (by omega)]
  · rw [st_row _ _ o4.symm, cp_at _ ⟨by omega, by omega⟩, show 0 + (l.length + i - l.length) = i by omega]
    exact k5 i hi
theorem s_J_str {d : Nat} {B : HP} {I : IM} {Post : Out → HP → Prop} {k : Nat} {t : List Int} (hk : kS B I k t) {s v n : Nat} (ho : oS B s v n) {l : List Int} (ht : sbT I s v l) (hvb : v < BIG) (hsb : s < BIG) (hr : l.length + t.length ≤ n) (hp : ∀ J : IM, sbT J s v (l ++ t) → (∀ a, a ≠ s → a ≠ v → J a = I a) → Post (.inl (some (.ref s))) (wI B J)) : Sp (d + 5) k_J4_append_15ec4 [.ref s, .ref (BIG + k)] (wI B I) Post := by
  refine Sp_intro md_J4_append_15ec4 rfl rfl (fun G hG => ?_)
  have ho0 := ho
  obtain ⟨o1, o2, o3, o4, o5⟩ := ho
  show G 0 [some (.ref s), some (.ref (BIG + k))] [] (wI B I)
  refine q_aload_n hG rfl rfl ?_
  refine q_aload_n hG rfl rfl ?_
  refine q_callI6 hG rfl rfl rfl (by assumption) (s_J_str1 hk ho0 ht hvb hsb hr (fun J j1 j2 => ?_))
  refine q_pop hG rfl rfl ?_
  refine q_aload_n hG rfl rfl ?_
  refine q_aret hG rfl ?_
  exact hp J j1 j2
theorem s_J_len1 {d : Nat} {B : HP} {I : IM} {Post : Out → HP → Prop} {s : Nat} (hk : hK B s = (20, 0)) {z : Int} (hz : I s 3 = z) (hp : Post (.inl (some (.int (i3 z)))) (wI B I)) : Sp (d + 1) k_J5_length_8abf5 [.ref s] (wI B I) Post := by
  refine Sp_intro md_J5_length_8abf5 rfl rfl (fun G hG => ?_)
  show G 0 [some (.ref s)] [] (wI B I)
  refine q_aload_n hG rfl rfl ?_
  refine q_getI0v (v := z) hG rfl (by assumption) (hz) ?_
  refine q_iret0 hG rfl rfl ?_
  exact hp
theorem s_J_len {d : Nat} {B : HP} {I : IM} {Post : Out → HP → Prop} {s : Nat} (hk : hK B s = (20, 0)) {z : Int} (hz : I s 3 = z) (hp : Post (.inl (some (.int (i3 z)))) (wI B I)) : Sp (d + 2) k_J4_length_8abf5 [.ref s] (wI B I) Post := by
  refine Sp_intro md_J4_length_8abf5 rfl rfl (fun G hG => ?_)
  show G 0 [some (.ref s)] [] (wI B I)
  refine q_aload_n hG rfl rfl ?_
  refine q_callI6 hG rfl rfl rfl (by assumption) (s_J_len1 hk hz ?_)
  refine q_iret0 hG rfl rfl ?_
  exact hp
theorem s_J_chk0 {d : Nat} {B : HP} {I : IM} {Post : Out → HP → Prop} {j n : Int} (hj : 0 ≤ j ∧ j < n) (hn : n < 2147483648) (hp : Post (.inl (some (.int (i3 j)))) (wI B I)) : Sp (d + 1) k_J3_checkIndex_8e157 [.int (i3 (j)), .int (i3 (n)), .null] (wI B I) Post := by
  refine Sp_intro md_J3_checkIndex_8e157 rfl rfl (fun G hG => ?_)
  show G 0 [some (.int (i3 (j))), some (.int (i3 (n))), some (.null)] [] (wI B I)
  refine q_iload_n hG rfl rfl ?_
  refine q_if_lt hG rfl ⟨by omega, by omega⟩ (fun hc1 => absurd hc1 (by omega)) (fun hc1 => ?_)
  refine q_iload_n hG rfl rfl ?_
  refine q_iload_n hG rfl rfl ?_
  refine q_icmp_lt hG rfl ⟨by omega, by omega⟩ ⟨by omega, by omega⟩ (fun hc6 => ?_) (fun hc6 => absurd (by omega) hc6)
  refine q_iload_n hG rfl rfl ?_
  refine q_iret0 hG rfl rfl ?_
  exact hp
theorem s_J_chk1 {d : Nat} {B : HP} {I : IM} {Post : Out → HP → Prop} {b : Nat} {j n : Int} (hj : 0 ≤ j ∧ j < n) (hn : n < 2147483648) (hp : Post (.inl (some (.int (i3 j)))) (wI B I)) : Sp (d + 1) k_J3_checkIndex_8e157 [.int (i3 (j)), .int (i3 (n)), .ref b] (wI B I) Post := by
  refine Sp_intro md_J3_checkIndex_8e157 rfl rfl (fun G hG => ?_)
  show G 0 [some (.int (i3 (j))), some (.int (i3 (n))), some (.ref b)] [] (wI B I)
  refine q_iload_n hG rfl rfl ?_
  refine q_if_lt hG rfl ⟨by omega, by omega⟩ (fun hc1 => absurd hc1 (by omega)) (fun hc1 => ?_)
  refine q_iload_n hG rfl rfl ?_
  refine q_iload_n hG rfl rfl ?_
  refine q_icmp_lt hG rfl ⟨by omega, by omega⟩ ⟨by omega, by omega⟩ (fun hc6 => ?_) (fun hc6 => absurd (by omega) hc6)
  refine q_iload_n hG rfl rfl ?_
  refine q_iret0 hG rfl rfl ?_
  exact hp
theorem s_J_chk {d : Nat} {B : HP} {I : IM} {Post : Out → HP → Prop} {j n : Int} (hj : 0 ≤ j ∧ j < n) (hn : n < 2147483648) (hp : Post (.inl none) (wI B I)) : Sp (d + 2) k_J0_checkIndex_df160 [.int (i3 (j)), .int (i3 (n))] (wI B I) Post := by
  refine Sp_intro md_J0_checkIndex_df160 rfl rfl (fun G hG => ?_)
  show G 0 [some (.int (i3 (j))), some (.int (i3 (n)))] [] (wI B I)
  refine q_iload_n hG rfl rfl ?_
  refine q_iload_n hG rfl rfl ?_
  refine q_getstJ hG rfl rfl (s_J_chk0 hj hn ⟨rfl, rfl⟩) (s_J_chk1 hj hn ⟨rfl, rfl⟩) ?_
  refine q_pop hG rfl rfl ?_
  refine q_vret hG rfl ?_
  exact hp
theorem s_J_at1 {d : Nat} {B : HP} {I : IM} {Post : Out → HP → Prop} {s v n : Nat} (ho : oS B s v n) {l : List Int} (ht : sbT I s v l) {j : Int} (hj : 0 ≤ j ∧ j < (l.length : Int)) (hln : l.length ≤ n) (hp : Post (.inl (some (.int (i3 (l.getD j.toNat 0))))) (wI B I)) : Sp (d + 3) k_J5_charAt_5068e [.ref s, .int (i3 (j))] (wI B I) Post := by
  refine Sp_intro md_J5_charAt_5068e rfl rfl (fun G hG => ?_)
  have ho0 := ho
  obtain ⟨o1, o2, o3, o4, o5⟩ := ho
  have ht0 := ht
  obtain ⟨t1, t3, tl, tc⟩ := ht
  show G 0 [some (.ref s), some (.int (i3 (j))), none, none, none] [] (wI B I)
  refine q_aload_n hG rfl rfl ?_
  refine q_getI4v (v := 0) hG rfl (by assumption) (t1) ?_
  refine q_istore_n hG rfl rfl ?_
  refine q_aload_n hG rfl rfl ?_
  refine q_getR hG rfl (by assumption) (by assumption) ?_
  refine q_astore_n hG rfl rfl ?_
  refine q_aload_n hG rfl rfl ?_
  refine q_getI0v (v := (l.length : Int)) hG rfl (by assumption) (t3) ?_
  refine q_aload_n hG rfl rfl ?_
  refine q_alen hG rfl (by assumption) ⟨by decide, by decide⟩ ?_
  refine q_iload_n hG rfl rfl ?_
  refine q_ishr0 hG rfl ?_
  refine q_min hG rfl ⟨by omega, by omega⟩ ⟨by omega, by omega⟩ rfl ?_
  refine q_istore hG rfl rfl ?_
  refine q_iload_n hG rfl rfl ?_
  refine q_iload hG rfl rfl ?_
  refine q_callS0 hG rfl rfl rfl (s_J_chk ⟨by omega, by split <;> omega⟩ (by split <;> omega) ?_)
  have hc9 := tc.at (i := j.toNat) (by omega)
  refine q_iload_n hG rfl rfl ?_
  refine q_if_ne hG rfl ⟨by omega, by omega⟩ (fun q => absurd q (by decide)) (fun _ => ?_)
  refine q_aload_n hG rfl rfl ?_
  refine q_iload_n hG rfl rfl ?_
  refine q_baldv (v := l.getD j.toNat 0) hG rfl (by assumption) (by first | exact Or.inl rfl | exact Or.inr rfl) ⟨by omega, by omega, by omega⟩ (tl _ (by omega)) ?_
  refine q_sipush (v := 255) hG rfl rfl ?_
  refine q_iand hG 8 rfl (by decide) (by decide +kernel) ?_
  refine q_i2c hG rfl ?_
  refine q_iret3 hG rfl rfl (by omega) ?_
  refine Eq.mp ?_ hp
  rw [show l.getD j.toNat 0 % 2 ^ 8 % 65536 = l.getD j.toNat 0 by omega]
theorem s_J_at {d : Nat} {B : HP} {I : IM} {Post : Out → HP → Prop} {s v n : Nat} (ho : oS B s v n) {l : List Int} (ht : sbT I s v l) {j : Int} (hj : 0 ≤ j ∧ j < (l.length : Int)) (hln : l.length ≤ n) (hp : Post (.inl (some (.int (i3 (l.getD j.toNat 0))))) (wI B I)) : Sp (d + 4) k_J4_charAt_5068e [.ref s, .int (i3 (j))] (wI B I) Post := by
  refine Sp_intro md_J4_charAt_5068e rfl rfl (fun G hG => ?_)
  have ho0 := ho
  obtain ⟨o1, o2, o3, o4, o5⟩ := ho
  have ht0 := ht
  obtain ⟨t1, t3, tl, tc⟩ := ht
  show G 0 [some (.ref s), some (.int (i3 (j)))] [] (wI B I)
  refine q_aload_n hG rfl rfl ?_
  refine q_iload_n hG rfl rfl ?_
  refine q_callI6 hG rfl rfl rfl (by assumption) (s_J_at1 ho0 ht0 hj hln ?_)
  have hc9 := tc.at (i := j.toNat) (by omega)
  refine q_iret3 hG rfl rfl (by omega) ?_
  exact hp
theorem s_J_slat {d : Nat} {B : HP} {I : IM} {Post : Out → HP → Prop} {k : Nat} {t : List Int} (hk : kS B I k t)  (hp : Post (.inl (some (.int (i3 1)))) (wI B I)) : Sp (d + 1) k_J0_isLatin1_aae02 [.ref (BIG + k)] (wI B I) Post := by
  refine Sp_intro md_J0_isLatin1_aae02 rfl rfl (fun G hG => ?_)
  have hk0 := hk
  obtain ⟨k1, k2, k3, k4, k5, k6, k7⟩ := hk
  show G 0 [some (.ref (BIG + k))] [] (wI B I)
  refine q_getst (v := 1) hG rfl rfl ?_
  refine q_if_eq hG rfl ⟨by omega, by omega⟩ (fun q => absurd q (by decide)) (fun _ => ?_)
  refine q_aload_n hG rfl rfl ?_
  refine q_getI4v (v := 0) hG rfl (by assumption) (k3) ?_
  refine q_if_ne hG rfl ⟨by omega, by omega⟩ (fun q => absurd q (by decide)) (fun _ => ?_)
  refine q_iconst (v := 1) hG rfl rfl ?_
  refine q_goto hG rfl ?_
  refine q_iret5 hG rfl rfl (by decide) ?_
  exact hp
theorem s_J_sat1 {d : Nat} {B : HP} {I : IM} {Post : Out → HP → Prop} {k : Nat} {t : List Int} (hk : kS B I k t) {j : Int} (hj : 0 ≤ j ∧ j < (t.length : Int)) (hp : Post (.inl (some (.int (i3 (t.getD j.toNat 0))))) (wI B I)) : Sp (d + 3) k_J1_charAt_3b067 [.ref (BIG + (9 + k)), .int (i3 (j))] (wI B I) Post := by
  refine Sp_intro md_J1_charAt_3b067 rfl rfl (fun G hG => ?_)
  have hk0 := hk
  obtain ⟨k1, k2, k3, k4, k5, k6, k7⟩ := hk
  have hc9 := k6.at (i := j.toNat) (by omega)
  show G 0 [some (.ref (BIG + (9 + k))), some (.int (i3 (j)))] [] (wI B I)
  refine q_iload_n hG rfl rfl ?_
  refine q_aload_n hG rfl rfl ?_
  refine q_alen hG rfl (by assumption) ⟨by decide, by decide⟩ ?_
  refine q_callS0 hG rfl rfl rfl (s_J_chk ⟨by omega, by omega⟩ (by omega) ?_)
  refine q_aload_n hG rfl rfl ?_
  refine q_iload_n hG rfl rfl ?_
  refine q_baldv (v := t.getD j.toNat 0) hG rfl (by assumption) (by first | exact Or.inl rfl | exact Or.inr rfl) ⟨by omega, by omega, by omega⟩ (k5 _ (by omega)) ?_
  refine q_sipush (v := 255) hG rfl rfl ?_
  refine q_iand hG 8 rfl (by decide) (by decide +kernel) ?_
  refine q_i2c hG rfl ?_
  refine q_iret3 hG rfl rfl (by omega) ?_
  refine Eq.mp ?_ hp
  rw [show t.getD j.toNat 0 % 2 ^ 8 % 65536 = t.getD j.toNat 0 by omega]
theorem s_J_sat {d : Nat} {B : HP} {I : IM} {Post : Out → HP → Prop} {k : Nat} {t : List Int} (hk : kS B I k t) {j : Int} (hj : 0 ≤ j ∧ j < (t.length : Int)) (hp : Post (.inl (some (.int (i3 (t.getD j.toNat 0))))) (wI B I)) : Sp (d + 4) k_J0_charAt_5068e [.ref (BIG + k), .int (i3 (j))] (wI B I) Post := by
  refine Sp_intro md_J0_charAt_5068e rfl rfl (fun G hG => ?_)
  have hk0 := hk
  obtain ⟨k1, k2, k3, k4, k5, k6, k7⟩ := hk
  have hc9 := k6.at (i := j.toNat) (by omega)
  show G 0 [some (.ref (BIG + k)), some (.int (i3 (j)))] [] (wI B I)
  refine q_aload_n hG rfl rfl ?_
  refine q_callV6 hG rfl rfl rfl (by assumption) (s_J_slat hk0 ?_)
  refine q_if_eq hG rfl ⟨by omega, by omega⟩ (fun q => absurd q (by decide)) (fun _ => ?_)
  refine q_aload_n hG rfl rfl ?_
  refine q_getR hG rfl (by assumption) (by assumption) ?_
  refine q_iload_n hG rfl rfl ?_
  refine q_callS0 hG rfl rfl rfl (s_J_sat1 hk0 hj ?_)
  refine q_iret3 hG rfl rfl (by omega) ?_
  exact hp
