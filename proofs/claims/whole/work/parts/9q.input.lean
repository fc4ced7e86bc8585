/-! the input's text, and what is read of the output -/
theorem mkK_ne {B : HP} {k : Nat × Nat} {w a : Nat} (h : a ≠ hn B) : hK (mk B k w) a = hK B a := if_neg h
theorem mkK_eq {B : HP} {k : Nat × Nat} {w : Nat} : hK (mk B k w) (hn B) = k := if_pos rfl
theorem mkR_ne {B : HP} {k : Nat × Nat} {w a : Nat} (h : a ≠ hn B) : hR (mk B k w) a = hR B a := funext (fun i => if_neg h)
theorem zM_ne {I : IM} {a b : Nat} (h : b ≠ a) : zM I a b = I b := funext (fun j => if_neg h)
/-- objects of old stay as they were, one reference aside -/
def fxB (B B' : HP) : Prop := ∀ a, a < 186 ∨ BIG ≤ a → hK B' a = hK B a ∧ (∀ i, ¬ (a = 161 ∧ i = 0) → hR B' a i = hR B a i) ∧ hJ B' a = hJ B a ∧ hU B' a = hU B a
theorem fxB.refl (B : HP) : fxB B B := fun _ _ => ⟨rfl, fun _ _ => rfl, rfl, rfl⟩
theorem fxB.trans {B B' C : HP} (h : fxB B B') (h2 : fxB B' C) : fxB B C := fun a ha => by
  obtain ⟨a1, a2, a3, a4⟩ := h a ha
  obtain ⟨b1, b2, b3, b4⟩ := h2 a ha
  exact ⟨b1.trans a1, fun i hi => (b2 i hi).trans (a2 i hi), b3.trans a3, b4.trans a4⟩
/-- the input's text -/
def txS (B : HP) (I : IM) (v n : Nat) (l : List Int) : Prop := oS B 161 v n ∧ sbT I 161 v l ∧ l.length ≤ n ∧ (v = 162 ∨ (186 ≤ v ∧ v < hn B)) ∧ (n = 16 ∨ n = 34 ∨ n = 70)

theorem s_J_newlen {d : Nat} {B : HP} {I : IM} {Post : Out → HP → Prop} {a b c : Int} (ha : 0 ≤ a ∧ a ≤ 1000) (hb : 0 ≤ b ∧ b ≤ c) (hc : 0 < c ∧ c ≤ 1002) (hp : Post (.inl (some (.int (i3 (a + c))))) (wI B I)) : Sp (d + 1) k_J8_newLength_cabcc [.int (i3 (a)), .int (i3 (b)), .int (i3 (c))] (wI B I) Post := by
  refine Sp_intro md_J8_newLength_cabcc rfl rfl (fun G hG => ?_)
  show G 0 [some (.int (i3 (a))), some (.int (i3 (b))), some (.int (i3 (c))), none] [] (wI B I)
  refine q_iload_n hG rfl rfl ?_
  refine q_iload_n hG rfl rfl ?_
  refine q_iload_n hG rfl rfl ?_
  refine q_max hG rfl ⟨by omega, by omega⟩ ⟨by omega, by omega⟩ rfl ?_
  refine q_iadd hG rfl ?_
  refine q_istore_n hG rfl rfl ?_
  refine q_iconst (v := 0) hG rfl rfl ?_
  refine q_iload_n hG rfl rfl ?_
  refine q_icmp_ge hG rfl ⟨by omega, by omega⟩ ⟨by omega, by omega⟩ (fun hc10 => absurd hc10 (by omega)) (fun hc10 => ?_)
  refine q_iload_n hG rfl rfl ?_
  refine q_ldc (v := 2147483639) hG rfl rfl ?_
  refine q_icmp_gt hG rfl ⟨by omega, by omega⟩ ⟨by omega, by omega⟩ (fun hc16 => absurd hc16 (by omega)) (fun hc16 => ?_)
  refine q_iload_n hG rfl rfl ?_
  refine q_iret0 hG rfl rfl ?_
  refine Eq.mp ?_ hp
  rw [show (if b < c then c else b) = c by split <;> omega]
theorem s_J_newcap {d : Nat} {B : HP} {I : IM} {Post : Out → HP → Prop} {s v n : Nat} (ho : oS B s v n) (h1 : I s 1 = 0) (hp : Post (.inl (some (.int (i3 ((n : Int) + ((n : Int) + 2)))))) (wI B I)) : Sp (d + 2) k_J5_newCapacity_0f7a4 [.ref s, .int (i3 ((n : Int) + 1))] (wI B I) Post := by
  refine Sp_intro md_J5_newCapacity_0f7a4 rfl rfl (fun G hG => ?_)
  have ho0 := ho
  obtain ⟨o1, o2, o3, o4, o5⟩ := ho
  show G 0 [some (.ref s), some (.int (i3 ((n : Int) + 1))), none, none, none, none] [] (wI B I)
  refine q_aload_n hG rfl rfl ?_
  refine q_getR hG rfl (by assumption) (by assumption) ?_
  refine q_alen hG rfl (by assumption) ⟨by decide, by decide⟩ ?_
  refine q_istore_n hG rfl rfl ?_
  refine q_iload_n hG rfl rfl ?_
  refine q_aload_n hG rfl rfl ?_
  refine q_getI4v (v := 0) hG rfl (by assumption) (h1) ?_
  refine q_ishl0 hG rfl ?_
  refine q_istore_n hG rfl rfl ?_
  refine q_iload_n hG rfl rfl ?_
  refine q_iload_n hG rfl rfl ?_
  refine q_isub hG rfl ?_
  refine q_istore hG rfl rfl ?_
  refine q_iload_n hG rfl rfl ?_
  refine q_iload hG rfl rfl ?_
  refine q_iload_n hG rfl rfl ?_
  refine q_iconst (v := 2) hG rfl rfl ?_
  refine q_aload_n hG rfl rfl ?_
  refine q_getI4v (v := 0) hG rfl (by assumption) (h1) ?_
  refine q_ishl0 hG rfl ?_
  refine q_iadd hG rfl ?_
  refine q_callS0 hG rfl rfl rfl (s_J_newlen ⟨by omega, by omega⟩ ⟨by omega, by omega⟩ ⟨by omega, by omega⟩ ?_)
  refine q_istore hG rfl rfl ?_
  refine q_iload hG rfl rfl ?_
  refine q_ldc (v := 2147483647) hG rfl rfl ?_
  refine q_icmp_ne hG rfl ⟨by omega, by omega⟩ ⟨by omega, by omega⟩ (fun hc38 => ?_) (fun hc38 => absurd (by omega) hc38)
  refine q_iload hG rfl rfl ?_
  refine q_aload_n hG rfl rfl ?_
  refine q_getI4v (v := 0) hG rfl (by assumption) (h1) ?_
  refine q_ishr0 hG rfl ?_
  refine q_iret0 hG rfl rfl ?_
  exact hp
theorem s_J_copyOf {d : Nat} {B : HP} {I : IM} {Post : Out → HP → Prop} {v n : Nat} (hv : hK B v = (4, n)) (hvn : v ≠ hn B) (hn9 : n ≤ 1000) (hb : ∀ j, j < n → -128 ≤ I v j ∧ I v j < 128) (hp : Post (.inl (some (.ref (hn B)))) (wI (mk B (4, n + 2 + n) (n + 2 + n)) (cpM (zM I (hn B)) v 0 (hn B) 0 n))) : Sp (d + 1) k_J7_copyOf_9075b [.ref v, .int (i3 ((n : Int) + ((n : Int) + 2)))] (wI B I) Post := by
  refine Sp_intro md_J7_copyOf_9075b rfl rfl (fun G hG => ?_)
  show G 0 [some (.ref v), some (.int (i3 ((n : Int) + ((n : Int) + 2)))), none] [] (wI B I)
  refine q_iload_n hG rfl rfl ?_
  refine q_aload_n hG rfl rfl ?_
  refine q_alen hG rfl (by assumption) ⟨by decide, by decide⟩ ?_
  refine q_icmp_ne hG rfl ⟨by omega, by omega⟩ ⟨by omega, by omega⟩ (fun hc3 => ?_) (fun hc3 => absurd (by omega) hc3)
  refine q_iload_n hG rfl rfl ?_
  refine q_newarr hG rfl ⟨by omega, by omega⟩ ?_
  refine q_astore_n hG rfl rfl ?_
  rw [show ((n : Int) + ((n : Int) + 2)).toNat = n + 2 + n by omega]
  have hv2 : hK (mk B (4, n + 2 + n) (n + 2 + n)) v = (4, n) := (mkK_ne hvn).trans hv
  have hv3 : hK (mk B (4, n + 2 + n) (n + 2 + n)) (hn B) = (4, n + 2 + n) := mkK_eq
  refine q_aload_n hG rfl rfl ?_
  refine q_iconst (v := 0) hG rfl rfl ?_
  refine q_aload_n hG rfl rfl ?_
  refine q_iconst (v := 0) hG rfl rfl ?_
  refine q_aload_n hG rfl rfl ?_
  refine q_alen hG rfl (by assumption) ⟨by decide, by decide⟩ ?_
  refine q_iload_n hG rfl rfl ?_
  refine q_min hG rfl ⟨by omega, by omega⟩ ⟨by omega, by omega⟩ rfl ?_
  rw [show (if (n : Int) + ((n : Int) + 2) < (n : Int) then (n : Int) + ((n : Int) + 2) else (n : Int)) = (n : Int) by split <;> omega]
  refine q_copyB hG rfl (by assumption) (by assumption) ⟨by omega, by omega, by omega, by omega, by omega, by omega, by omega, by omega⟩ (fun j hj => by rw [zM_ne hvn, show (0 : Int).toNat + j = j from Nat.zero_add j]; exact hb j (by omega)) ?_
  refine q_aload_n hG rfl rfl ?_
  refine q_aret hG rfl ?_
  refine Eq.mp ?_ hp
  rw [show (0 : Int).toNat = 0 from rfl, show (n : Int).toNat = n by omega]
theorem s_J_ensG {d : Nat} {B : HP} {I : IM} {Post : Out → HP → Prop} {s v n : Nat} (ho : oS B s v n) {l : List Int} (ht : sbT I s v l) (hs : s < hn B) (hv : v < hn B) (he : l.length = n) (hp : Post (.inl none) (wI (sR (mk B (4, n + 2 + n) (n + 2 + n)) s 0 (some (hn B))) (cpM (zM I (hn B)) v 0 (hn B) 0 n))) : Sp (d + 3) k_J5_ensureCapacityInternal_d00df [.ref s, .int (i3 ((n : Int) + 1))] (wI B I) Post := by
  refine Sp_intro md_J5_ensureCapacityInternal_d00df rfl rfl (fun G hG => ?_)
  have ho0 := ho
  obtain ⟨o1, o2, o3, o4, o5⟩ := ho
  have ht0 := ht
  obtain ⟨t1, t3, tl, tc⟩ := ht
  show G 0 [some (.ref s), some (.int (i3 ((n : Int) + 1))), none] [] (wI B I)
  refine q_aload_n hG rfl rfl ?_
  refine q_getR hG rfl (by assumption) (by assumption) ?_
  refine q_alen hG rfl (by assumption) ⟨by decide, by decide⟩ ?_
  refine q_aload_n hG rfl rfl ?_
  refine q_getI4v (v := 0) hG rfl (by assumption) (t1) ?_
  refine q_ishr0 hG rfl ?_
  refine q_istore_n hG rfl rfl ?_
  refine q_iload_n hG rfl rfl ?_
  refine q_iload_n hG rfl rfl ?_
  refine q_isub hG rfl ?_
  refine q_if_le hG rfl ⟨by omega, by omega⟩ (fun hc14 => absurd hc14 (by omega)) (fun hc14 => ?_)
  refine q_aload_n hG rfl rfl ?_
  refine q_aload_n hG rfl rfl ?_
  refine q_getR hG rfl (by assumption) (by assumption) ?_
  refine q_aload_n hG rfl rfl ?_
  refine q_iload_n hG rfl rfl ?_
  refine q_callV6 hG rfl rfl rfl (by assumption) (s_J_newcap ho0 t1 ?_)
  refine q_aload_n hG rfl rfl ?_
  refine q_getI4v (v := 0) hG rfl (by assumption) (t1) ?_
  refine q_ishl0 hG rfl ?_
  refine q_callS0 hG rfl rfl rfl (s_J_copyOf o3 (by omega) o5 (fun j hj => by have a := tc.at (i := j) (by omega); have b := tl j (by omega); rw [b]; omega) ?_)
  have gk : hK (mk B (4, n + 2 + n) (n + 2 + n)) s = (20, 0) := by rw [mkK_ne (by omega)]; exact o1
  refine q_putR hG rfl (by assumption) ?_
  refine q_vret hG rfl ?_
  exact hp
theorem s_J_appG1 {d : Nat} {B : HP} {I : IM} {Post : Out → HP → Prop} {s v n : Nat} (ho : oS B s v n) {l : List Int} (ht : sbT I s v l) (hs : s < hn B) (hv : v < hn B) (he : l.length = n) (hn9 : n ≤ 400) {c : Int} (hc : 0 ≤ c ∧ c < 128) (hp : ∀ J : IM, oS (sR (mk B (4, n + 2 + n) (n + 2 + n)) s 0 (some (hn B))) s (hn B) (n + 2 + n) → sbT J s (hn B) (l ++ [c]) → (∀ a, a ≠ s → a ≠ hn B → J a = I a) → Post (.inl (some (.ref s))) (wI (sR (mk B (4, n + 2 + n) (n + 2 + n)) s 0 (some (hn B))) J)) : Sp (d + 4) k_J5_append_3fe6f [.ref s, .int (i3 (c))] (wI B I) Post := by
  refine Sp_intro md_J5_append_3fe6f rfl rfl (fun G hG => ?_)
  have ho0 := ho
  obtain ⟨o1, o2, o3, o4, o5⟩ := ho
  have ht0 := ht
  obtain ⟨t1, t3, tl, tc⟩ := ht
  have hn2 : n + 2 + n ≤ 1000 := by omega
  show G 0 [some (.ref s), some (.int (i3 (c)))] [] (wI B I)
  refine q_aload_n hG rfl rfl ?_
  refine q_aload_n hG rfl rfl ?_
  refine q_getI0v (v := (l.length : Int)) hG rfl (by assumption) (t3) ?_
  refine q_iconst (v := 1) hG rfl rfl ?_
  refine q_iadd hG rfl ?_
  rw [show (l.length : Int) + 1 = (n : Int) + 1 by omega]
  refine q_callV6 hG rfl rfl rfl (by assumption) (s_J_ensG ho0 ht0 hs hv he ?_)
  have g1 : hK (sR (mk B (4, n + 2 + n) (n + 2 + n)) s 0 (some (hn B))) s = (20, 0) := by show hK (mk B (4, n + 2 + n) (n + 2 + n)) s = _; rw [mkK_ne (by omega)]; exact o1
  have g2 : hR (sR (mk B (4, n + 2 + n) (n + 2 + n)) s 0 (some (hn B))) s 0 = some (hn B) := if_pos ⟨rfl, rfl⟩
  have g3 : hK (sR (mk B (4, n + 2 + n) (n + 2 + n)) s 0 (some (hn B))) (hn B) = (4, n + 2 + n) := mkK_eq (w := n + 2 + n)
  have gr : ∀ a, a ≠ hn B → (cpM (zM I (hn B)) v 0 (hn B) 0 n) a = I a := fun a ha => by rw [cp_row _ ha, zM_ne ha]
  have g4 : (cpM (zM I (hn B)) v 0 (hn B) 0 n) s 1 = 0 := by rw [gr s (by omega)]; exact t1
  have g5 : (cpM (zM I (hn B)) v 0 (hn B) 0 n) s 3 = (l.length : Int) := by rw [gr s (by omega)]; exact t3
  have g6 : ∀ i, i < l.length → (cpM (zM I (hn B)) v 0 (hn B) 0 n) (hn B) i = l.getD i 0 := fun i hi => by rw [cp_in _ (by omega), zM_ne (by omega)]; exact tl i hi
  have g7 : sbT (cpM (zM I (hn B)) v 0 (hn B) 0 n) s (hn B) l := ⟨g4, g5, g6, tc⟩
  refine q_aload_n hG rfl rfl ?_
  refine q_callV6 hG rfl rfl rfl (by assumption) (s_J_latin g1 g4 ?_)
  refine q_if_eq hG rfl ⟨by omega, by omega⟩ (fun q => absurd q (by decide)) (fun _ => ?_)
  refine q_iload_n hG rfl rfl ?_
  refine q_callS0 hG rfl rfl rfl (s_J_can hc ?_)
  refine q_if_eq hG rfl ⟨by omega, by omega⟩ (fun q => absurd q (by decide)) (fun _ => ?_)
  refine q_aload_n hG rfl rfl ?_
  refine q_getR hG rfl (by assumption) (by assumption) ?_
  refine q_aload_n hG rfl rfl ?_
  refine q_dup hG rfl rfl ?_
  refine q_getI0v (v := (l.length : Int)) hG rfl (by assumption) (g5) ?_
  refine q_dup_x1 hG rfl rfl rfl ?_
  refine q_iconst (v := 1) hG rfl rfl ?_
  refine q_iadd hG rfl ?_
  refine q_putI0 hG rfl (by assumption) ?_
  refine q_iload_n hG rfl rfl ?_
  refine q_i2b hG rfl ⟨by omega, by omega⟩ ?_
  refine q_bast hG rfl (by assumption) ⟨by omega, by omega, by omega⟩ ⟨by omega, by omega⟩ ?_
  refine q_goto hG rfl ?_
  refine q_aload_n hG rfl rfl ?_
  refine q_aret hG rfl ?_
  refine hp _ ⟨g1, g2, g3, by omega, by omega⟩ (g7.push (chL.one hc) ?_ ?_ (fun i hi => ?_) (fun i hi => ?_)) (fun a h1 h2 => by rw [st_row _ _ h2, st_row _ _ h1]; exact gr a h2)
  · rw [st_row _ _ (show s ≠ hn B by omega), st_ne _ _ (by omega)]; exact g4
  · rw [st_row _ _ (show s ≠ hn B by omega), st_same]; rfl
  · rw [st_ne _ _ (by omega), st_row _ _ (show hn B ≠ s by omega)]
  · have e0 : i = 0 := Nat.lt_one_iff.mp hi
    subst e0
    have e1 : (l.length : Int).toNat = l.length + 0 := by omega
    rw [e1, st_same]
    rfl
theorem s_J_appG {d : Nat} {B : HP} {I : IM} {Post : Out → HP → Prop} {s v n : Nat} (ho : oS B s v n) {l : List Int} (ht : sbT I s v l) (hs : s < hn B) (hv : v < hn B) (he : l.length = n) (hn9 : n ≤ 400) {c : Int} (hc : 0 ≤ c ∧ c < 128) (hp : ∀ J : IM, oS (sR (mk B (4, n + 2 + n) (n + 2 + n)) s 0 (some (hn B))) s (hn B) (n + 2 + n) → sbT J s (hn B) (l ++ [c]) → (∀ a, a ≠ s → a ≠ hn B → J a = I a) → Post (.inl (some (.ref s))) (wI (sR (mk B (4, n + 2 + n) (n + 2 + n)) s 0 (some (hn B))) J)) : Sp (d + 5) k_J4_append_cf468 [.ref s, .int (i3 (c))] (wI B I) Post := by
  refine Sp_intro md_J4_append_cf468 rfl rfl (fun G hG => ?_)
  have ho0 := ho
  obtain ⟨o1, o2, o3, o4, o5⟩ := ho
  have ht0 := ht
  obtain ⟨t1, t3, tl, tc⟩ := ht
  show G 0 [some (.ref s), some (.int (i3 (c)))] [] (wI B I)
  refine q_aload_n hG rfl rfl ?_
  refine q_iload_n hG rfl rfl ?_
  refine q_callI6 hG rfl rfl rfl (by assumption) (s_J_appG1 ho0 ht0 hs hv he hn9 hc (fun J j1 j2 j3 => ?_))
  refine q_pop hG rfl rfl ?_
  refine q_aload_n hG rfl rfl ?_
  refine q_aret hG rfl ?_
  exact hp J j1 j2 j3
theorem s_J_appX {d : Nat} {B : HP} {I : IM} {Post : Out → HP → Prop} {v n : Nat} {l : List Int} (h : txS B I v n l) (hb : 186 ≤ hn B ∧ hn B < BIG) (hl : l.length < 60) {c : Int} (hc : 0 ≤ c ∧ c < 128)
    (hp : ∀ (B' : HP) (J : IM) (v' n' : Nat), txS B' J v' n' (l ++ [c]) → fxB B B' → hn B ≤ hn B' ∧ hn B' ≤ hn B + 1 → hw B ≤ hw B' ∧ hw B' ≤ hw B + 70 → (∀ a, a ≠ 161 → a ≠ v → a ≠ hn B → J a = I a) → Post (.inl (some (.ref 161))) (wI B' J)) : Sp (d + 5) k_J4_append_cf468 [.ref 161, .int (i3 c)] (wI B I) Post := by
  obtain ⟨h1, h2, h3, h4, h5⟩ := h
  by_cases e : l.length < n
  · exact s_J_app (d := d + 2) h1 h2 hc e (fun J j1 j2 => hp B J v n ⟨h1, j1, by rw [List.length_append]; exact e, h4, h5⟩ (fxB.refl B) ⟨by omega, by omega⟩ ⟨by omega, by omega⟩ (fun a p q _ => j2 a p q))
  · refine s_J_appG (d := d) h1 h2 (by omega) (by omega) (by omega) (by omega) hc (fun J j1 j2 j3 => ?_)
    have hnB : hn (sR (mk B (4, n + 2 + n) (n + 2 + n)) 161 0 (some (hn B))) = hn B + 1 := rfl
    have hwB : hw (sR (mk B (4, n + 2 + n) (n + 2 + n)) 161 0 (some (hn B))) = hw B + (n + 2 + n) := rfl
    refine hp _ J (hn B) (n + 2 + n) ⟨j1, j2, by rw [List.length_append]; show l.length + 1 ≤ _; omega, by omega, by omega⟩ (fun a ha => ?_) ⟨by omega, by omega⟩ ⟨by omega, by omega⟩ (fun a p _ r => j3 a p r)
    have ne : a ≠ hn B := by omega
    refine ⟨mkK_ne (w := n + 2 + n) ne, fun i hi => ?_, funext (fun i => if_neg ne), funext (fun i => if_neg ne)⟩
    show (if a = 161 ∧ i = 0 then some (hn B) else hR (mk B (4, n + 2 + n) (n + 2 + n)) a i) = _
    rw [if_neg hi, mkR_ne ne]
theorem s_X_appendInput {d : Nat} {B : HP} {I : IM} {Post : Out → HP → Prop} (hX : LX B) {v n : Nat} {l : List Int} (hT : txS B I v n l) (hb : 186 ≤ hn B ∧ hn B < BIG) (hl : l.length ≤ 60) {c : Int} (hc : 0 ≤ c ∧ c < 65536) (p0 : ¬ (32 ≤ c ∧ c ≤ 126) → Post (.inr 0) (wI (junk B 6) I)) (p4 : 32 ≤ c ∧ c ≤ 126 → l.length = 60 → Post (.inr 4) (wI (junk B 6) I)) (p1 : 32 ≤ c ∧ c ≤ 126 → l.length < 60 → ∀ (B' : HP) (J : IM) (v' n' : Nat), txS B' J v' n' (l ++ [c]) → fxB B B' → hn B ≤ hn B' ∧ hn B' ≤ hn B + 1 → hw B ≤ hw B' ∧ hw B' ≤ hw B + 70 → (∀ a, a ≠ 161 → a ≠ v → a ≠ hn B → J a = I a) → Post (.inl (some (.int (i3 ((l.length : Int) + 1))))) (wI B' J)) : Sp (d + 6) k_X8_appendInput [.ref 0, .int (i3 (c))] (wI B I) Post := by
  refine Sp_intro md_X8_appendInput rfl rfl (fun G hG => ?_)
  have hX0 := hX
  obtain ⟨x0, x1, x2, x3, x4, x5, x6, x7, x8, x9, x10, x11, x12, x13, x14, x15, x16, x17, x18, x19, x20, x21, x22, x23, x24, x25, x26, x27, x28, x29, x30, x31, x32, x33, x34, x35, x36, x37, x38, x39, x40, x41, x42, x43, x44⟩ := hX
  have hT0 := hT
  obtain ⟨T1, T2, T3, T4, T5⟩ := hT
  show G 0 [some (.ref 0), some (.int (i3 (c)))] [] (wI B I)
  refine q_iload_n hG rfl rfl ?_
  refine q_bipush (v := 32) hG rfl rfl ?_
  refine q_icmp_lt hG rfl ⟨by omega, by omega⟩ ⟨by omega, by omega⟩ (fun hc3 => ?_) (fun hc3 => ?_)
  · refine q_throw hG rfl ?_
    exact p0 (by omega)
  · refine q_iload_n hG rfl rfl ?_
    refine q_bipush (v := 126) hG rfl rfl ?_
    refine q_icmp_le hG rfl ⟨by omega, by omega⟩ ⟨by omega, by omega⟩ (fun hc9 => ?_) (fun hc9 => ?_)
    · refine q_aload_n hG rfl rfl ?_
      refine q_getR hG rfl (by assumption) (by assumption) ?_
      refine q_getR hG rfl (by assumption) (by assumption) ?_
      refine q_callV6 hG rfl rfl rfl (by assumption) (s_J_len T1.1 T2.2.1 ?_)
      refine q_bipush (v := 60) hG rfl rfl ?_
      refine q_icmp_lt hG rfl ⟨by omega, by omega⟩ ⟨by omega, by omega⟩ (fun hc35 => ?_) (fun hc35 => ?_)
      · refine q_aload_n hG rfl rfl ?_
        refine q_getR hG rfl (by assumption) (by assumption) ?_
        refine q_getR hG rfl (by assumption) (by assumption) ?_
        refine q_iload_n hG rfl rfl ?_
        refine q_callV6 hG rfl rfl rfl (by assumption) (s_J_appX hT0 hb (by omega) ⟨by omega, by omega⟩ (fun B2 J v2 n2 tt fx q1 q2 q3 => ?_))
        have y0 : hK B2 0 = (18, 0) := (fx 0 (by decide)).1.trans x0
        have y9 : hR B2 0 9 = some 160 := ((fx 0 (by decide)).2.1 9 (by decide)).trans x9
        have y160 : hK B2 160 = (17, 0) := (fx 160 (by decide)).1.trans x35
        have yt : hR B2 160 0 = some 161 := ((fx 160 (by decide)).2.1 0 (by decide)).trans x36
        have y161 : hK B2 161 = (20, 0) := (fx 161 (by decide)).1.trans x40
        refine q_pop hG rfl rfl ?_
        refine q_aload_n hG rfl rfl ?_
        refine q_getR hG rfl (by assumption) (by assumption) ?_
        refine q_getR hG rfl (by assumption) (by assumption) ?_
        refine q_callV6 hG rfl rfl rfl (by assumption) (s_J_len y161 (z := (l.length : Int) + 1) (by rw [tt.2.1.2.1, List.length_append]; rfl) ?_)
        refine q_iret0 hG rfl rfl ?_
        exact p1 ⟨by omega, by omega⟩ (by omega) B2 J v2 n2 tt fx q1 q2 q3
      · refine q_throw hG rfl ?_
        exact p4 ⟨by omega, by omega⟩ (by omega)
    · refine q_throw hG rfl ?_
      exact p0 (by omega)
/-- the reference's input -/
def inR (I : IM) (m : Nat) (l : List Int) : Prop := I m 16 = (l.length : Int) ∧ (∀ i, i < l.length → I (m + 4) i = l.getD i 0) ∧ chL l ∧ l.length ≤ 60
theorem inR.push {I J : IM} {m : Nat} {l : List Int} (h : inR I m l) {c : Int} (hc : 0 ≤ c ∧ c < 128) (hl : l.length < 60) (h1 : J m 16 = ((l.length + 1 : Nat) : Int)) (hlo : ∀ i, i < l.length → J (m + 4) i = I (m + 4) i) (hhi : J (m + 4) l.length = c) : inR J m (l ++ [c]) := by
  refine ⟨by rw [h1, List.length_append]; rfl, fun i hi => ?_, h.2.2.1.app (chL.one hc), by rw [List.length_append]; exact hl⟩
  rw [List.length_append] at hi
  have hi : i < l.length + 1 := hi
  rw [getD_app]
  split
  · rename_i h5
    rw [hlo i h5]; exact h.2.1 i h5
  · rename_i h5
    have e : i = l.length := by omega
    subst e
    rw [hhi, Nat.sub_self]
    rfl
theorem s_R_appendInput {d : Nat} {B : HP} {I : IM} {Post : Out → HP → Prop} {m : Nat} (hm : oM B m) {l : List Int} (hi : inR I m l) {c : Int} (hc : 0 ≤ c ∧ c < 65536) (p0 : ¬ (32 ≤ c ∧ c ≤ 126) → ∀ J : IM, sth I J m → J m 0 = 1 → Post (.inl (some (.int (i3 0)))) (wI B J)) (p4 : 32 ≤ c ∧ c ≤ 126 → l.length = 60 → ∀ J : IM, sth I J m → J m 0 = 2 → Post (.inl (some (.int (i3 0)))) (wI B J)) (p1 : 32 ≤ c ∧ c ≤ 126 → l.length < 60 → ∀ J : IM, inR J m (l ++ [c]) → J m 0 = 0 → (∀ a, a ≠ m → a ≠ m + 4 → J a = I a) → (∀ k, k ≠ 0 → k ≠ 16 → J m k = I m k) → Post (.inl (some (.int (i3 ((l.length : Int) + 1))))) (wI B J)) : Sp (d + 2) k_X9_appendInput [.ref m, .int (i3 (c))] (wI B I) Post := by
  refine Sp_intro md_X9_appendInput rfl rfl (fun G hG => ?_)
  have hm0 := hm
  obtain ⟨n1, n2, n3, n4, n5, n6, n7, n8, n9, n10, n11⟩ := hm
  have hi0 := hi
  obtain ⟨i1, i2, i3e, i4⟩ := hi
  show G 0 [some (.ref m), some (.int (i3 (c)))] [] (wI B I)
  refine q_aload_n hG rfl rfl ?_
  refine q_iload_n hG rfl rfl ?_
  refine q_bipush (v := 32) hG rfl rfl ?_
  refine q_bipush (v := 126) hG rfl rfl ?_
  refine q_callS0 hG rfl rfl rfl (s_R_in ⟨by omega, by omega⟩ ⟨by omega, by omega⟩ ⟨by omega, by omega⟩ (fun hc9 => ?_) (fun hc9 => ?_))
  · refine q_if_ne hG rfl ⟨by omega, by omega⟩ (fun _ => ?_) (fun q => absurd (by decide) q)
    refine q_aload_n hG rfl rfl ?_
    refine q_getI0v (v := (l.length : Int)) hG rfl (by assumption) (i1) ?_
    refine q_bipush (v := 60) hG rfl rfl ?_
    refine q_icmp_ne hG rfl ⟨by omega, by omega⟩ ⟨by omega, by omega⟩ (fun hc22 => ?_) (fun hc22 => ?_)
    · refine q_iconst (v := 0) hG rfl rfl ?_
      refine q_putI0 hG rfl (by assumption) ?_
      refine q_aload_n hG rfl rfl ?_
      refine q_getI0v (v := 0) hG rfl (by assumption) (st_same _ _ _ _) ?_
      refine q_if_eq hG rfl ⟨by omega, by omega⟩ (fun _ => ?_) (fun q => absurd (by decide) q)
      refine q_aload_n hG rfl rfl ?_
      refine q_getR hG rfl (by assumption) (by assumption) ?_
      refine q_aload_n hG rfl rfl ?_
      refine q_getI0v (v := (l.length : Int)) hG rfl (by assumption) (by rw [st_ne _ _ (by omega)]; exact i1) ?_
      refine q_iload_n hG rfl rfl ?_
      refine q_cast hG rfl (by assumption) ⟨by omega, by omega, by omega⟩ ⟨by omega, by omega⟩ ?_
      refine q_aload_n hG rfl rfl ?_
      refine q_dup hG rfl rfl ?_
      refine q_getI0v (v := (l.length : Int)) hG rfl (by assumption) (by rw [st_row _ _ (show m ≠ m + 4 by omega), st_ne _ _ (by omega)]; exact i1) ?_
      refine q_iconst (v := 1) hG rfl rfl ?_
      refine q_iadd hG rfl ?_
      refine q_putI0 hG rfl (by assumption) ?_
      refine q_aload_n hG rfl rfl ?_
      refine q_getI0v (v := (l.length : Int) + 1) hG rfl (by assumption) (st_same _ _ _ _) ?_
      refine q_iret0 hG rfl rfl ?_
      first
      | exact p0 hc9 _ ((sth.refl I m).t _) (st_same _ _ _ _)
      | exact p4 hc9 (by omega) _ ((sth.refl I m).t _) (st_same _ _ _ _)
      | (refine p1 hc9 (by omega) _ (hi0.push ⟨by omega, by omega⟩ (by omega) ?_ (fun i hi9 => ?_) ?_) ?_ (fun a h1 h2 => by rw [st_row _ _ h1, st_row _ _ h2, st_row _ _ h1]) (fun k h1 h2 => by rw [st_ne _ _ (fun z => h2 z.2), st_row _ _ (show m ≠ m + 4 by omega), st_ne _ _ (fun z => h1 z.2)])
         · rw [st_same]; omega
         · rw [st_row _ _ (show m + 4 ≠ m by omega), st_ne _ _ (by omega), st_row _ _ (show m + 4 ≠ m by omega)]
         · rw [st_row _ _ (show m + 4 ≠ m by omega), show (l.length : Int).toNat = l.length by omega, st_same]
         · rw [st_ne _ _ (by omega), st_row _ _ (show m ≠ m + 4 by omega), st_same])
    · refine q_iconst (v := 2) hG rfl rfl ?_
      refine q_goto hG rfl ?_
      refine q_putI0 hG rfl (by assumption) ?_
      refine q_aload_n hG rfl rfl ?_
      refine q_getI0v (v := 2) hG rfl (by assumption) (st_same _ _ _ _) ?_
      refine q_if_eq hG rfl ⟨by omega, by omega⟩ (fun q => absurd q (by decide)) (fun _ => ?_)
      refine q_iconst (v := 0) hG rfl rfl ?_
      refine q_iret0 hG rfl rfl ?_
      first
      | exact p0 hc9 _ ((sth.refl I m).t _) (st_same _ _ _ _)
      | exact p4 hc9 (by omega) _ ((sth.refl I m).t _) (st_same _ _ _ _)
      | (refine p1 hc9 (by omega) _ (hi0.push ⟨by omega, by omega⟩ (by omega) ?_ (fun i hi9 => ?_) ?_) ?_ (fun a h1 h2 => by rw [st_row _ _ h1, st_row _ _ h2, st_row _ _ h1]) (fun k h1 h2 => by rw [st_ne _ _ (fun z => h2 z.2), st_row _ _ (show m ≠ m + 4 by omega), st_ne _ _ (fun z => h1 z.2)])
         · rw [st_same]; omega
         · rw [st_row _ _ (show m + 4 ≠ m by omega), st_ne _ _ (by omega), st_row _ _ (show m + 4 ≠ m by omega)]
         · rw [st_row _ _ (show m + 4 ≠ m by omega), show (l.length : Int).toNat = l.length by omega, st_same]
         · rw [st_ne _ _ (by omega), st_row _ _ (show m ≠ m + 4 by omega), st_same])
  · refine q_if_ne hG rfl ⟨by omega, by omega⟩ (fun q => absurd q (by decide)) (fun _ => ?_)
    refine q_iconst (v := 1) hG rfl rfl ?_
    refine q_goto hG rfl ?_
    refine q_putI0 hG rfl (by assumption) ?_
    refine q_aload_n hG rfl rfl ?_
    refine q_getI0v (v := 1) hG rfl (by assumption) (st_same _ _ _ _) ?_
    refine q_if_eq hG rfl ⟨by omega, by omega⟩ (fun q => absurd q (by decide)) (fun _ => ?_)
    refine q_iconst (v := 0) hG rfl rfl ?_
    refine q_iret0 hG rfl rfl ?_
    first
    | exact p0 hc9 _ ((sth.refl I m).t _) (st_same _ _ _ _)
    | exact p4 hc9 (by omega) _ ((sth.refl I m).t _) (st_same _ _ _ _)
    | (refine p1 hc9 (by omega) _ (hi0.push ⟨by omega, by omega⟩ (by omega) ?_ (fun i hi9 => ?_) ?_) ?_ (fun a h1 h2 => by rw [st_row _ _ h1, st_row _ _ h2, st_row _ _ h1]) (fun k h1 h2 => by rw [st_ne _ _ (fun z => h2 z.2), st_row _ _ (show m ≠ m + 4 by omega), st_ne _ _ (fun z => h1 z.2)])
       · rw [st_same]; omega
       · rw [st_row _ _ (show m + 4 ≠ m by omega), st_ne _ _ (by omega), st_row _ _ (show m + 4 ≠ m by omega)]
       · rw [st_row _ _ (show m + 4 ≠ m by omega), show (l.length : Int).toNat = l.length by omega, st_same]
       · rw [st_ne _ _ (by omega), st_row _ _ (show m ≠ m + 4 by omega), st_same])
theorem s_R_outputAt {d : Nat} {B : HP} {I : IM} {Post : Out → HP → Prop} {m : Nat} (hm : oM B m) {l : List Int} (hl : wrR I m l) (hl9 : l.length ≤ 40) {x : Int} (hv : r32 x) (pE : ¬ (0 ≤ x ∧ x < (l.length : Int)) → ∀ J : IM, sth I J m → J m 0 = 1 → Post (.inl (some (.int (i3 0)))) (wI B J)) (p1 : 0 ≤ x ∧ x < (l.length : Int) → ∀ J : IM, sth I J m → J m 0 = 0 → Post (.inl (some (.int (i3 (l.getD x.toNat 0))))) (wI B J)) : Sp (d + 2) k_X9_outputAt [.ref m, .int (i3 (x))] (wI B I) Post := by
  refine Sp_intro md_X9_outputAt rfl rfl (fun G hG => ?_)
  have hm0 := hm
  obtain ⟨n1, n2, n3, n4, n5, n6, n7, n8, n9, n10, n11⟩ := hm
  have hl0 := hl
  obtain ⟨l1, l2, l3⟩ := hl
  show G 0 [some (.ref m), some (.int (i3 (x)))] [] (wI B I)
  refine q_aload_n hG rfl rfl ?_
  refine q_iload_n hG rfl rfl ?_
  refine q_iconst (v := 0) hG rfl rfl ?_
  refine q_aload_n hG rfl rfl ?_
  refine q_getI0v (v := (l.length : Int)) hG rfl (by assumption) (l1) ?_
  refine q_iconst (v := 1) hG rfl rfl ?_
  refine q_isub hG rfl ?_
  refine q_callS0 hG rfl rfl rfl (s_R_in hv r32_0 ⟨by omega, by omega⟩ (fun hd => ?_) (fun hd => ?_))
  · have hc9 := l3.at (i := x.toNat) (by omega)
    refine q_callV6 hG rfl rfl rfl (by assumption) (s_R_fine1 hm0 ?_)
    refine q_if_eq hG rfl ⟨by omega, by omega⟩ (fun q => absurd q (by decide)) (fun _ => ?_)
    refine q_aload_n hG rfl rfl ?_
    refine q_getR hG rfl (by assumption) (by assumption) ?_
    refine q_iload_n hG rfl rfl ?_
    refine q_caldv (v := l.getD x.toNat 0) hG rfl (by assumption) ⟨by omega, by omega, by omega⟩ (by rw [st_row _ _ (show m + 3 ≠ m by omega)]; exact l2 _ (by omega)) ?_
    refine q_goto hG rfl ?_
    refine q_iret3 hG rfl rfl (by omega) ?_
    first
    | exact p1 (by omega) _ ((sth.refl I m).t _) (st_same _ _ _ _)
    | exact pE (by omega) _ ((sth.refl I m).t _) (st_same _ _ _ _)
  · refine q_callV6 hG rfl rfl rfl (by assumption) (s_R_fine0 hm0 ?_)
    refine q_if_eq hG rfl ⟨by omega, by omega⟩ (fun _ => ?_) (fun q => absurd (by decide) q)
    refine q_iconst (v := 0) hG rfl rfl ?_
    refine q_iret3 hG rfl rfl (by decide) ?_
    first
    | exact p1 (by omega) _ ((sth.refl I m).t _) (st_same _ _ _ _)
    | exact pE (by omega) _ ((sth.refl I m).t _) (st_same _ _ _ _)
