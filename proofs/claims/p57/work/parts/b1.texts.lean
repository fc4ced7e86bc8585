/-! texts that the run makes; a heap that only grows -/
section
variable {S : SpecT} {M : MDT} {Post : Out → HP → Prop} {G : Nat → LV → List Value → HP → Prop} {pc nx : Nat} {cst : Int32} {x : List Nat} {L : LV} {r : List Value} {A B : HP} {I : IM}
theorem q_anull (hG : Cl S M Post G) (hl : lk pc M.1 = some (.aconst_null, nx, cst, x)) (h : G nx L (.null :: r) A) : G pc L r A := hG _ _ _ _ (by
  unfold stepP
  rw [hl]
  exact h)
theorem q_copyT (hG : Cl S M Post G) {j : _} {s d n0 n1 z : Nat} {n sp dp : Int} (hl : lk pc M.1 = some (.invokestatic j, nx, cst, [2])) (hs : hK B s = (z, n0)) (hd : hK B d = (4, n1)) (h1 : 0 ≤ sp ∧ 0 ≤ dp ∧ 0 ≤ n ∧ sp + n ≤ (n0 : Int) ∧ dp + n ≤ (n1 : Int) ∧ sp < 2147483648 ∧ dp < 2147483648 ∧ n < 2147483648) (hz : z = 4 ∨ z = 8) (hf : ∀ j, j < n.toNat → -128 ≤ I s (sp.toNat + j) ∧ I s (sp.toNat + j) < 128) (h : G nx L [] (wI B (cpM I s sp.toNat d dp.toNat n.toNat))) : G pc L [.int (i3 n), .int (i3 dp), .ref d, .int (i3 sp), .ref s] (wI B I) := by
  rcases hz with e | e
  · subst e; exact q_copyB hG hl hs hd h1 hf h
  · subst e; exact q_copyK hG hl hs hd h1 hf h
end
/-- a text: its cell, its bytes -/
def oT (B : HP) (I : IM) (a w z : Nat) (t : List Int) : Prop := hK B a = (21, 0) ∧ hR B a 0 = some w ∧ I a 1 = 0 ∧ hK B w = (z, t.length) ∧ (z = 4 ∨ z = 8) ∧ (∀ i, i < t.length → I w i = t.getD i 0) ∧ chL t ∧ t.length < 100
theorem kS.t {B : HP} {I : IM} {k : Nat} {l : List Int} (h : kS B I k l) : oT B I (BIG + k) (BIG + (9 + k)) 8 l := by
  obtain ⟨h1, h2, h3, h4, h5, h6, h7⟩ := h
  exact ⟨h1, h2, h3, h4, Or.inr rfl, h5, h6, h7⟩
/-- a heap that has grown: what was there is as it was -/
def gr (B : HP) (I : IM) (B' : HP) (J : IM) : Prop := (∀ a, (a < hn B ∨ BIG ≤ a) → hK B' a = hK B a ∧ (∀ i, hR B' a i = hR B a i) ∧ J a = I a) ∧ hn B ≤ hn B' ∧ hw B' + 70 * hn B ≤ hw B + 70 * hn B'
theorem gr.refl (B : HP) (I : IM) : gr B I B I := ⟨fun _ _ => ⟨rfl, fun _ => rfl, rfl⟩, Nat.le_refl _, Nat.le_refl _⟩
theorem gr.trans {B C D : HP} {I J K : IM} (h : gr B I C J) (h2 : gr C J D K) : gr B I D K := by
  obtain ⟨a1, a2, a3⟩ := h
  obtain ⟨b1, b2, b3⟩ := h2
  refine ⟨fun a ha => ?_, by omega, by omega⟩
  obtain ⟨c1, c2, c3⟩ := a1 a ha
  obtain ⟨d1, d2, d3⟩ := b1 a (by omega)
  exact ⟨d1.trans c1, fun i => (d2 i).trans (c2 i), d3.trans c3⟩
theorem gr.junk {B C : HP} {I J : IM} (h : gr B I C J) : gr B I (junk C 6) J := h.trans ⟨fun _ _ => ⟨rfl, fun _ => rfl, rfl⟩, Nat.le_succ _, by show hw C + 6 + 70 * hn C ≤ hw C + 70 * (hn C + 1); omega⟩
theorem gr.mv {B C : HP} {I J K : IM} (h : gr B I C J) (hr : ∀ a, (a < hn B ∨ BIG ≤ a) → K a = J a) : gr B I C K := ⟨fun a ha => ⟨(h.1 a ha).1, (h.1 a ha).2.1, (hr a ha).trans (h.1 a ha).2.2⟩, h.2⟩
theorem gr.mk (B : HP) (I : IM) (k : Nat × Nat) (w : Nat) (hb : hn B < BIG) (hw9 : w ≤ 70) : gr B I (mk B k w) (zM I (hn B)) := by
  refine ⟨fun a ha => ⟨if_neg (by omega), fun i => if_neg (by omega), funext (fun j => if_neg (by omega))⟩, Nat.le_succ _, ?_⟩
  show hw B + w + 70 * hn B ≤ hw B + 70 * (hn B + 1)
  omega
theorem gr.sR {B C : HP} {I J : IM} (h : gr B I C J) {a i : Nat} {v : Option Nat} (ha : hn B ≤ a ∧ a < BIG) : gr B I (sR C a i v) J := by
  refine ⟨fun b hb => ⟨(h.1 b hb).1, fun k => ?_, (h.1 b hb).2.2⟩, h.2⟩
  show up2 (hR C) a i v b k = _
  rw [show up2 (hR C) a i v b k = hR C b k from if_neg (by omega)]
  exact (h.1 b hb).2.1 k
theorem oT.gr {B C : HP} {I J : IM} {a w z : Nat} {t : List Int} (h : oT B I a w z t) (g : gr B I C J) (ha : a < hn B ∨ BIG ≤ a) (hw : w < hn B ∨ BIG ≤ w) : oT C J a w z t := by
  obtain ⟨h1, h2, h3, h4, h5, h6, h7⟩ := h
  obtain ⟨a1, a2, a3⟩ := g.1 a ha
  obtain ⟨b1, b2, b3⟩ := g.1 w hw
  exact ⟨a1.trans h1, (a2 0).trans h2, by rw [a3]; exact h3, b1.trans h4, h5, fun i hi => by rw [b3]; exact h6 i hi, h7⟩

theorem s_T_coder {d : Nat} {B : HP} {I : IM} {Post : Out → HP → Prop} {a0 w z : Nat} {t : List Int} (hk : oT B I a0 w z t)  (hp : Post (.inl (some (.int (i3 0)))) (wI B I)) : Sp (d + 1) k_J0_coder_7d493 [.ref a0] (wI B I) Post := by
  refine Sp_intro md_J0_coder_7d493 rfl rfl (fun G hG => ?_)
  have hk0 := hk
  obtain ⟨k1, k2, k3, k4, kz, k5, k6, k7⟩ := hk
  show G 0 [some (.ref a0)] [] (wI B I)
  refine q_getst (v := 1) hG rfl rfl ?_
  refine q_if_eq hG rfl ⟨by omega, by omega⟩ (fun q => absurd q (by decide)) (fun _ => ?_)
  refine q_aload_n hG rfl rfl ?_
  refine q_getI4v (v := 0) hG rfl (by assumption) (k3) ?_
  refine q_goto hG rfl ?_
  refine q_iret4 hG rfl rfl (by decide) ?_
  exact hp
theorem s_T_slen {d : Nat} {B : HP} {I : IM} {Post : Out → HP → Prop} {a0 w z : Nat} {t : List Int} (hk : oT B I a0 w z t)  (hp : Post (.inl (some (.int (i3 (t.length : Int))))) (wI B I)) : Sp (d + 2) k_J0_length_8abf5 [.ref a0] (wI B I) Post := by
  refine Sp_intro md_J0_length_8abf5 rfl rfl (fun G hG => ?_)
  have hk0 := hk
  obtain ⟨k1, k2, k3, k4, kz, k5, k6, k7⟩ := hk
  have kz2 : 0 < z ∧ z ≤ 9 := by omega
  show G 0 [some (.ref a0)] [] (wI B I)
  refine q_aload_n hG rfl rfl ?_
  refine q_getR hG rfl (by assumption) (by assumption) ?_
  refine q_alen hG rfl (by assumption) kz2 ?_
  refine q_aload_n hG rfl rfl ?_
  refine q_callV6 hG rfl rfl rfl (by assumption) (s_T_coder hk0 ?_)
  refine q_ishr0 hG rfl ?_
  refine q_iret0 hG rfl rfl ?_
  exact hp
theorem s_T_infl {d : Nat} {B : HP} {I : IM} {Post : Out → HP → Prop} {a0 w z : Nat} {t : List Int} (hk : oT B I a0 w z t) {s : Nat} (hs : hK B s = (20, 0)) (h1 : I s 1 = 0) (hp : Post (.inl none) (wI B I)) : Sp (d + 2) k_J5_inflateIfNeededFor_a7421 [.ref s, .ref a0] (wI B I) Post := by
  refine Sp_intro md_J5_inflateIfNeededFor_a7421 rfl rfl (fun G hG => ?_)
  have hk0 := hk
  obtain ⟨k1, k2, k3, k4, kz, k5, k6, k7⟩ := hk
  show G 0 [some (.ref s), some (.ref a0)] [] (wI B I)
  refine q_getst (v := 1) hG rfl rfl ?_
  refine q_if_eq hG rfl ⟨by omega, by omega⟩ (fun q => absurd q (by decide)) (fun _ => ?_)
  refine q_aload_n hG rfl rfl ?_
  refine q_getI4v (v := 0) hG rfl (by assumption) (h1) ?_
  refine q_aload_n hG rfl rfl ?_
  refine q_callV6 hG rfl rfl rfl (by assumption) (s_T_coder hk0 ?_)
  refine q_icmp_eq hG rfl ⟨by omega, by omega⟩ ⟨by omega, by omega⟩ (fun _ => ?_) (fun q => absurd (by decide) q)
  refine q_vret hG rfl ?_
  exact hp
theorem s_T_bytes {d : Nat} {B : HP} {I : IM} {Post : Out → HP → Prop} {a0 w z : Nat} {t : List Int} (hk : oT B I a0 w z t) {v n p : Nat} (hv : hK B v = (4, n)) (hp9 : p + t.length ≤ n ∧ n ≤ 1000) (hp : Post (.inl none) (wI B (cpM I w 0 v p t.length))) : Sp (d + 2) k_J0_getBytes_840e7 [.ref a0, .ref v, .int (i3 ((p : Int))), .int (i3 (0))] (wI B I) Post := by
  refine Sp_intro md_J0_getBytes_840e7 rfl rfl (fun G hG => ?_)
  have hk0 := hk
  obtain ⟨k1, k2, k3, k4, kz, k5, k6, k7⟩ := hk
  have kz2 : 0 < z ∧ z ≤ 9 := by omega
  show G 0 [some (.ref a0), some (.ref v), some (.int (i3 ((p : Int)))), some (.int (i3 (0)))] [] (wI B I)
  refine q_aload_n hG rfl rfl ?_
  refine q_callV6 hG rfl rfl rfl (by assumption) (s_T_coder hk0 ?_)
  refine q_iload_n hG rfl rfl ?_
  refine q_icmp_ne hG rfl ⟨by omega, by omega⟩ ⟨by omega, by omega⟩ (fun q => absurd q (by decide)) (fun _ => ?_)
  refine q_aload_n hG rfl rfl ?_
  refine q_getR hG rfl (by assumption) (by assumption) ?_
  refine q_iconst (v := 0) hG rfl rfl ?_
  refine q_aload_n hG rfl rfl ?_
  refine q_iload_n hG rfl rfl ?_
  refine q_iload_n hG rfl rfl ?_
  refine q_ishl0 hG rfl ?_
  refine q_aload_n hG rfl rfl ?_
  refine q_getR hG rfl (by assumption) (by assumption) ?_
  refine q_alen hG rfl (by assumption) kz2 ?_
  refine q_copyT hG rfl (by assumption) (by assumption) ⟨by omega, by omega, by omega, by omega, by omega, by omega, by omega, by omega⟩ kz (fun j hj => by have a := k6.at (i := 0 + j) (by omega); rw [show I w ((0 : Int).toNat + j) = t.getD (0 + j) 0 from k5 (0 + j) (by omega)]; omega) ?_
  refine q_goto hG rfl ?_
  refine q_vret hG rfl ?_
  refine Eq.mp ?_ hp
  rw [show (0 : Int).toNat = 0 from rfl, show (p : Int).toNat = p by omega, show (t.length : Int).toNat = t.length by omega]
theorem s_T_put {d : Nat} {B : HP} {I : IM} {Post : Out → HP → Prop} {a0 w z : Nat} {t : List Int} (hk : oT B I a0 w z t) {s v n : Nat} (ho : oS B s v n) (h1 : I s 1 = 0) {p : Nat} (hp9 : p + t.length ≤ n) (hp : Post (.inl none) (wI B (cpM I w 0 v p t.length))) : Sp (d + 3) k_J5_putStringAt_47b60 [.ref s, .int (i3 ((p : Int))), .ref a0] (wI B I) Post := by
  refine Sp_intro md_J5_putStringAt_47b60 rfl rfl (fun G hG => ?_)
  have hk0 := hk
  obtain ⟨k1, k2, k3, k4, kz, k5, k6, k7⟩ := hk
  have ho0 := ho
  obtain ⟨o1, o2, o3, o4, o5⟩ := ho
  show G 0 [some (.ref s), some (.int (i3 ((p : Int)))), some (.ref a0)] [] (wI B I)
  refine q_aload_n hG rfl rfl ?_
  refine q_aload_n hG rfl rfl ?_
  refine q_callV6 hG rfl rfl rfl (by assumption) (s_T_infl hk0 o1 h1 ?_)
  refine q_aload_n hG rfl rfl ?_
  refine q_aload_n hG rfl rfl ?_
  refine q_getR hG rfl (by assumption) (by assumption) ?_
  refine q_iload_n hG rfl rfl ?_
  refine q_aload_n hG rfl rfl ?_
  refine q_getI4v (v := 0) hG rfl (by assumption) (h1) ?_
  refine q_callV6 hG rfl rfl rfl (by assumption) (s_T_bytes hk0 o3 ⟨hp9, o5⟩ ?_)
  refine q_vret hG rfl ?_
  exact hp
theorem s_T_str1 {d : Nat} {B : HP} {I : IM} {Post : Out → HP → Prop} {a0 w z : Nat} {t : List Int} (hk : oT B I a0 w z t) {s v n : Nat} (ho : oS B s v n) {l : List Int} (ht : sbT I s v l) (hr : l.length + t.length ≤ n) (hp : ∀ J : IM, sbT J s v (l ++ t) → (∀ a, a ≠ s → a ≠ v → J a = I a) → Post (.inl (some (.ref s))) (wI B J)) : Sp (d + 4) k_J5_append_cf1ce [.ref s, .ref a0] (wI B I) Post := by
  refine Sp_intro md_J5_append_cf1ce rfl rfl (fun G hG => ?_)
  have hk0 := hk
  obtain ⟨k1, k2, k3, k4, kz, k5, k6, k7⟩ := hk
  have ho0 := ho
  obtain ⟨o1, o2, o3, o4, o5⟩ := ho
  have ht0 := ht
  obtain ⟨t1, t3, tl, tc⟩ := ht
  show G 0 [some (.ref s), some (.ref a0), none] [] (wI B I)
  refine q_aload_n hG rfl rfl ?_
  refine q_nonnull hG rfl ?_
  refine q_aload_n hG rfl rfl ?_
  refine q_callV6 hG rfl rfl rfl (by assumption) (s_T_slen hk0 ?_)
  refine q_istore_n hG rfl rfl ?_
  refine q_aload_n hG rfl rfl ?_
  refine q_aload_n hG rfl rfl ?_
  refine q_getI0v (v := (l.length : Int)) hG rfl (by assumption) (t3) ?_
  refine q_iload_n hG rfl rfl ?_
  refine q_iadd hG rfl ?_
  refine q_callV6 hG rfl rfl rfl (by assumption) (s_J_ens ho0 t1 ⟨by omega, by omega⟩ ?_)
  refine q_aload_n hG rfl rfl ?_
  refine q_aload_n hG rfl rfl ?_
  refine q_getI0v (v := (l.length : Int)) hG rfl (by assumption) (t3) ?_
  refine q_aload_n hG rfl rfl ?_
  refine q_callV6 hG rfl rfl rfl (by assumption) (s_T_put hk0 ho0 t1 hr ?_)
  refine q_aload_n hG rfl rfl ?_
  refine q_dup hG rfl rfl ?_
  refine q_getI0v (v := (l.length : Int)) hG rfl (by assumption) (by rw [cp_row _ o4]; exact t3) ?_
  refine q_iload_n hG rfl rfl ?_
  refine q_iadd hG rfl ?_
  refine q_putI0 hG rfl (by assumption) ?_
  refine q_aload_n hG rfl rfl ?_
  refine q_aret hG rfl ?_
  refine hp _ (ht0.push k6 ?_ ?_ (fun i hi => ?_) (fun i hi => ?_)) (fun a h1 h2 => by rw [st_row _ _ h1, cp_row _ h2])
  · rw [st_ne _ _ (by omega), cp_row _ o4]; exact t1
  · rw [st_same]; omega
  · rw [st_row _ _ o4.symm, cp_lo _ (by omega)]
  · rw [st_row _ _ o4.symm, cp_at _ ⟨by omega, by omega⟩, show 0 + (l.length + i - l.length) = i by omega]
    exact k5 i hi
theorem s_T_str {d : Nat} {B : HP} {I : IM} {Post : Out → HP → Prop} {a0 w z : Nat} {t : List Int} (hk : oT B I a0 w z t) {s v n : Nat} (ho : oS B s v n) {l : List Int} (ht : sbT I s v l) (hr : l.length + t.length ≤ n) (hp : ∀ J : IM, sbT J s v (l ++ t) → (∀ a, a ≠ s → a ≠ v → J a = I a) → Post (.inl (some (.ref s))) (wI B J)) : Sp (d + 5) k_J4_append_15ec4 [.ref s, .ref a0] (wI B I) Post := by
  refine Sp_intro md_J4_append_15ec4 rfl rfl (fun G hG => ?_)
  have ho0 := ho
  obtain ⟨o1, o2, o3, o4, o5⟩ := ho
  show G 0 [some (.ref s), some (.ref a0)] [] (wI B I)
  refine q_aload_n hG rfl rfl ?_
  refine q_aload_n hG rfl rfl ?_
  refine q_callI6 hG rfl rfl rfl (by assumption) (s_T_str1 hk ho0 ht hr (fun J j1 j2 => ?_))
  refine q_pop hG rfl rfl ?_
  refine q_aload_n hG rfl rfl ?_
  refine q_aret hG rfl ?_
  exact hp J j1 j2
theorem s_T_slat {d : Nat} {B : HP} {I : IM} {Post : Out → HP → Prop} {a0 w z : Nat} {t : List Int} (hk : oT B I a0 w z t)  (hp : Post (.inl (some (.int (i3 1)))) (wI B I)) : Sp (d + 1) k_J0_isLatin1_aae02 [.ref a0] (wI B I) Post := by
  refine Sp_intro md_J0_isLatin1_aae02 rfl rfl (fun G hG => ?_)
  have hk0 := hk
  obtain ⟨k1, k2, k3, k4, kz, k5, k6, k7⟩ := hk
  show G 0 [some (.ref a0)] [] (wI B I)
  refine q_getst (v := 1) hG rfl rfl ?_
  refine q_if_eq hG rfl ⟨by omega, by omega⟩ (fun q => absurd q (by decide)) (fun _ => ?_)
  refine q_aload_n hG rfl rfl ?_
  refine q_getI4v (v := 0) hG rfl (by assumption) (k3) ?_
  refine q_if_ne hG rfl ⟨by omega, by omega⟩ (fun q => absurd q (by decide)) (fun _ => ?_)
  refine q_iconst (v := 1) hG rfl rfl ?_
  refine q_goto hG rfl ?_
  refine q_iret5 hG rfl rfl (by decide) ?_
  exact hp
theorem s_T_sat1 {d : Nat} {B : HP} {I : IM} {Post : Out → HP → Prop} {a0 w z : Nat} {t : List Int} (hk : oT B I a0 w z t) {j : Int} (hj : 0 ≤ j ∧ j < (t.length : Int)) (hp : Post (.inl (some (.int (i3 (t.getD j.toNat 0))))) (wI B I)) : Sp (d + 3) k_J1_charAt_3b067 [.ref w, .int (i3 (j))] (wI B I) Post := by
  refine Sp_intro md_J1_charAt_3b067 rfl rfl (fun G hG => ?_)
  have hk0 := hk
  obtain ⟨k1, k2, k3, k4, kz, k5, k6, k7⟩ := hk
  have kz2 : 0 < z ∧ z ≤ 9 := by omega
  have hc9 := k6.at (i := j.toNat) (by omega)
  show G 0 [some (.ref w), some (.int (i3 (j)))] [] (wI B I)
  refine q_iload_n hG rfl rfl ?_
  refine q_aload_n hG rfl rfl ?_
  refine q_alen hG rfl (by assumption) kz2 ?_
  refine q_callS0 hG rfl rfl rfl (s_J_chk ⟨by omega, by omega⟩ (by omega) ?_)
  refine q_aload_n hG rfl rfl ?_
  refine q_iload_n hG rfl rfl ?_
  refine q_baldv (v := t.getD j.toNat 0) hG rfl (by assumption) (by first | exact Or.inl rfl | exact Or.inr rfl | assumption) ⟨by omega, by omega, by omega⟩ (k5 _ (by omega)) ?_
  refine q_sipush (v := 255) hG rfl rfl ?_
  refine q_iand hG 8 rfl (by decide) (by decide +kernel) ?_
  refine q_i2c hG rfl ?_
  refine q_iret3 hG rfl rfl (by omega) ?_
  refine Eq.mp ?_ hp
  rw [show t.getD j.toNat 0 % 2 ^ 8 % 65536 = t.getD j.toNat 0 by omega]
theorem s_T_sat {d : Nat} {B : HP} {I : IM} {Post : Out → HP → Prop} {a0 w z : Nat} {t : List Int} (hk : oT B I a0 w z t) {j : Int} (hj : 0 ≤ j ∧ j < (t.length : Int)) (hp : Post (.inl (some (.int (i3 (t.getD j.toNat 0))))) (wI B I)) : Sp (d + 4) k_J0_charAt_5068e [.ref a0, .int (i3 (j))] (wI B I) Post := by
  refine Sp_intro md_J0_charAt_5068e rfl rfl (fun G hG => ?_)
  have hk0 := hk
  obtain ⟨k1, k2, k3, k4, kz, k5, k6, k7⟩ := hk
  have hc9 := k6.at (i := j.toNat) (by omega)
  show G 0 [some (.ref a0), some (.int (i3 (j)))] [] (wI B I)
  refine q_aload_n hG rfl rfl ?_
  refine q_callV6 hG rfl rfl rfl (by assumption) (s_T_slat hk0 ?_)
  refine q_if_eq hG rfl ⟨by omega, by omega⟩ (fun q => absurd q (by decide)) (fun _ => ?_)
  refine q_aload_n hG rfl rfl ?_
  refine q_getR hG rfl (by assumption) (by assumption) ?_
  refine q_iload_n hG rfl rfl ?_
  refine q_callS0 hG rfl rfl rfl (s_T_sat1 hk0 hj ?_)
  refine q_iret3 hG rfl rfl (by omega) ?_
  exact hp
theorem kR_mk {B : HP} {k : Nat × Nat} {m a : Nat} (h : a < hn B) : hK (mk B k m) a = hK B a := if_neg (by omega)
theorem s_T_val {d : Nat} {B : HP} {I : IM} {Post : Out → HP → Prop} {s v n : Nat} (ho : oS B s v n)  (hp : Post (.inl (some (.ref v))) (wI B I)) : Sp (d + 1) k_J5_getValue_6d5f1 [.ref s] (wI B I) Post := by
  refine Sp_intro md_J5_getValue_6d5f1 rfl rfl (fun G hG => ?_)
  have ho0 := ho
  obtain ⟨o1, o2, o3, o4, o5⟩ := ho
  show G 0 [some (.ref s)] [] (wI B I)
  refine q_aload_n hG rfl rfl ?_
  refine q_getR hG rfl (by assumption) (by assumption) ?_
  refine q_aret hG rfl ?_
  exact hp
theorem s_T_chkL {d : Nat} {B : HP} {I : IM} {Post : Out → HP → Prop} {a b : Int} (h : 0 ≤ a ∧ a ≤ b ∧ b < 2147483648) (hp : Post (.inl none) (wI B I)) : Sp (d + 1) k_J7_checkLength_df160 [.int (i3 (a)), .int (i3 (b))] (wI B I) Post := by
  refine Sp_intro md_J7_checkLength_df160 rfl rfl (fun G hG => ?_)
  show G 0 [some (.int (i3 (a))), some (.int (i3 (b)))] [] (wI B I)
  refine q_iload_n hG rfl rfl ?_
  refine q_iload_n hG rfl rfl ?_
  refine q_icmp_ge hG rfl ⟨by omega, by omega⟩ ⟨by omega, by omega⟩ (fun hc2 => ?_) (fun hc2 => absurd (by omega) hc2)
  refine q_vret hG rfl ?_
  exact hp
theorem s_T_cp1 {d : Nat} {B : HP} {I : IM} {Post : Out → HP → Prop} {v n m : Nat} (hv : hK B v = (4, n)) (hvb : v < hn B) (hm : m ≤ n ∧ n ≤ 1000) (hc : ∀ i, i < m → -128 ≤ I v i ∧ I v i < 128) (hp : Post (.inl (some (.ref (hn B)))) (wI (mk B (4, m) m) (cpM (zM I (hn B)) v 0 (hn B) 0 m))) : Sp (d + 2) k_J7_copyOfRangeByte_39247 [.ref v, .int (i3 (0)), .int (i3 ((m : Int)))] (wI B I) Post := by
  refine Sp_intro md_J7_copyOfRangeByte_39247 rfl rfl (fun G hG => ?_)
  have e1 : hK (mk B (4, ((m : Int) - 0).toNat) ((m : Int) - 0).toNat) v = (4, n) := (kR_mk hvb).trans hv
  show G 0 [some (.ref v), some (.int (i3 (0))), some (.int (i3 ((m : Int)))), none, none] [] (wI B I)
  refine q_iload_n hG rfl rfl ?_
  refine q_iload_n hG rfl rfl ?_
  refine q_callS0 hG rfl rfl rfl (s_T_chkL ⟨by omega, by omega, by omega⟩ ?_)
  refine q_iload_n hG rfl rfl ?_
  refine q_iload_n hG rfl rfl ?_
  refine q_isub hG rfl ?_
  refine q_istore_n hG rfl rfl ?_
  refine q_iload_n hG rfl rfl ?_
  refine q_newarr hG rfl ⟨by omega, by omega⟩ ?_
  refine q_astore hG rfl rfl ?_
  refine q_aload_n hG rfl rfl ?_
  refine q_iload_n hG rfl rfl ?_
  refine q_aload hG rfl rfl ?_
  refine q_iconst (v := 0) hG rfl rfl ?_
  refine q_aload_n hG rfl rfl ?_
  refine q_alen hG rfl e1 ⟨by decide, by decide⟩ ?_
  refine q_iload_n hG rfl rfl ?_
  refine q_isub hG rfl ?_
  refine q_iload_n hG rfl rfl ?_
  refine q_min hG rfl ⟨by omega, by omega⟩ ⟨by omega, by omega⟩ rfl ?_
  refine q_copyB hG rfl e1 mkK_eq ⟨by omega, by omega, by omega, by omega, by omega, by omega, by omega, by omega⟩ (fun j hj => by rw [show zM I (hn B) v = I v from funext (fun q => if_neg (by omega))]; rw [show (0 : Int).toNat + j = j by omega]; exact hc j (by omega)) ?_
  refine q_aload hG rfl rfl ?_
  refine q_aret hG rfl ?_
  refine Eq.mp ?_ hp
  rw [show (if (m : Int) - 0 < (n : Int) - 0 then (m : Int) - 0 else (n : Int) - 0) = (m : Int) by split <;> omega, show ((m : Int) - 0).toNat = m by omega, show (0 : Int).toNat = 0 from rfl, show (m : Int).toNat = m by omega]
theorem s_T_cp {d : Nat} {B : HP} {I : IM} {Post : Out → HP → Prop} {v n m : Nat} (hv : hK B v = (4, n)) (hvb : v < hn B) (hm : m ≤ n ∧ n ≤ 1000) (hc : ∀ i, i < m → -128 ≤ I v i ∧ I v i < 128) (hne : m ≠ n) (hp : Post (.inl (some (.ref (hn B)))) (wI (mk B (4, m) m) (cpM (zM I (hn B)) v 0 (hn B) 0 m))) : Sp (d + 3) k_J7_copyOfRange_39247 [.ref v, .int (i3 (0)), .int (i3 ((m : Int)))] (wI B I) Post := by
  refine Sp_intro md_J7_copyOfRange_39247 rfl rfl (fun G hG => ?_)
  show G 0 [some (.ref v), some (.int (i3 (0))), some (.int (i3 ((m : Int))))] [] (wI B I)
  refine q_iload_n hG rfl rfl ?_
  refine q_if_ne hG rfl ⟨by omega, by omega⟩ (fun q => absurd q (by decide)) (fun _ => ?_)
  refine q_iload_n hG rfl rfl ?_
  refine q_aload_n hG rfl rfl ?_
  refine q_alen hG rfl (by assumption) ⟨by decide, by decide⟩ ?_
  refine q_icmp_eq hG rfl ⟨by omega, by omega⟩ ⟨by omega, by omega⟩ (fun hc7 => absurd hc7 (by omega)) (fun hc7 => ?_)
  refine q_aload_n hG rfl rfl ?_
  refine q_iload_n hG rfl rfl ?_
  refine q_iload_n hG rfl rfl ?_
  refine q_callS0 hG rfl rfl rfl (s_T_cp1 hv hvb hm hc ?_)
  refine q_aret hG rfl ?_
  exact hp
theorem s_T_mk1 {d : Nat} {B : HP} {I : IM} {Post : Out → HP → Prop} {s v n : Nat} (ho : oS B s v n) {l : List Int} (ht : sbT I s v l) {a0 : Nat} (ha : hK B a0 = (21, 0)) (hab : a0 < hn B) (hB : hn B < BIG) (hvb : v < hn B) (hne : a0 ≠ s ∧ a0 ≠ v) (hr : l.length < n) (hp : ∀ J : IM, (∀ b, b ≠ a0 → b ≠ hn B → J b = I b) → J a0 1 = 0 → (∀ i, i < l.length → J (hn B) i = l.getD i 0) → Post (.inl none) (wI (sR (mk B (4, l.length) l.length) a0 0 (some (hn B))) J)) : Sp (d + 4) k_J0_init_db425 [.ref a0, .ref s, .null] (wI B I) Post := by
  refine Sp_intro md_J0_init_db425 rfl rfl (fun G hG => ?_)
  have ho0 := ho
  obtain ⟨o1, o2, o3, o4, o5⟩ := ho
  have ht0 := ht
  obtain ⟨t1, t3, tl, tc⟩ := ht
  have hab9 : a0 < BIG := Nat.lt_trans hab hB
  show G 0 [some (.ref a0), some (.ref s), some (.null), none, none] [] (wI B I)
  refine q_aload_n hG rfl rfl ?_
  refine q_objI hG rfl rfl ?_
  refine q_aload_n hG rfl rfl ?_
  refine q_callV6 hG rfl rfl rfl (by assumption) (s_T_val ho0 ?_)
  refine q_astore_n hG rfl rfl ?_
  refine q_aload_n hG rfl rfl ?_
  refine q_callV6 hG rfl rfl rfl (by assumption) (s_J_len o1 (z := (l.length : Int)) t3 ?_)
  refine q_istore hG rfl rfl ?_
  refine q_aload_n hG rfl rfl ?_
  refine q_callV6 hG rfl rfl rfl (by assumption) (s_J_latin o1 t1 ?_)
  refine q_if_eq hG rfl ⟨by omega, by omega⟩ (fun q => absurd q (by decide)) (fun _ => ?_)
  refine q_aload_n hG rfl rfl ?_
  refine q_iconst (v := 0) hG rfl rfl ?_
  refine q_putI4o hG rfl (by assumption) (by assumption) (by omega) ?_
  refine q_aload_n hG rfl rfl ?_
  refine q_aload_n hG rfl rfl ?_
  refine q_iconst (v := 0) hG rfl rfl ?_
  refine q_iload hG rfl rfl ?_
  refine q_callS0 hG rfl rfl rfl (s_T_cp o3 hvb ⟨by omega, o5⟩ (fun i hi => by rw [st_row _ _ (Ne.symm hne.2), tl i hi]; have := tc.at hi; omega) (by omega) ?_)
  refine q_putRo hG rfl (by assumption) (by show (if a0 = hn B then _ else hK B a0) = _; rw [if_neg (by omega)]; exact ha) ?_
  refine q_goto hG rfl ?_
  refine q_vret hG rfl ?_
  refine hp _ (fun b h1 h2 => ?_) ?_ (fun i hi => ?_)
  · rw [cp_row _ h2, show zM (st I a0 1 0) (hn B) b = st I a0 1 0 b from funext (fun q => if_neg (by omega)), st_row _ _ h1]
  · rw [cp_row _ (by omega), show zM (st I a0 1 0) (hn B) a0 = st I a0 1 0 a0 from funext (fun q => if_neg (by omega)), st_same]
  · rw [cp_at _ ⟨by omega, by omega⟩, show zM (st I a0 1 0) (hn B) v = st I a0 1 0 v from funext (fun q => if_neg (by omega)), st_row _ _ (Ne.symm hne.2), show 0 + (i - 0) = i by omega]
    exact tl i hi
theorem s_T_mk {d : Nat} {B : HP} {I : IM} {Post : Out → HP → Prop} {s v n : Nat} (ho : oS B s v n) {l : List Int} (ht : sbT I s v l) {a0 : Nat} (ha : hK B a0 = (21, 0)) (hab : a0 < hn B) (hB : hn B < BIG) (hvb : v < hn B) (hne : a0 ≠ s ∧ a0 ≠ v) (hr : l.length < n) (hp : ∀ J : IM, (∀ b, b ≠ a0 → b ≠ hn B → J b = I b) → J a0 1 = 0 → (∀ i, i < l.length → J (hn B) i = l.getD i 0) → Post (.inl none) (wI (sR (mk B (4, l.length) l.length) a0 0 (some (hn B))) J)) : Sp (d + 5) k_J0_init_81219 [.ref a0, .ref s] (wI B I) Post := by
  refine Sp_intro md_J0_init_81219 rfl rfl (fun G hG => ?_)
  have ho0 := ho
  obtain ⟨o1, o2, o3, o4, o5⟩ := ho
  show G 0 [some (.ref a0), some (.ref s)] [] (wI B I)
  refine q_aload_n hG rfl rfl ?_
  refine q_aload_n hG rfl rfl ?_
  refine q_anull hG rfl ?_
  refine q_callI7 hG rfl rfl rfl (s_T_mk1 ho0 ht ha hab hB hvb hne hr (fun J j1 j2 j3 => ?_))
  refine q_vret hG rfl ?_
  exact hp J j1 j2 j3
theorem s_T_toS {d : Nat} {B : HP} {I : IM} {Post : Out → HP → Prop} {s v n : Nat} (ho : oS B s v n) {l : List Int} (ht : sbT I s v l) (hsb : s < hn B ∧ v < hn B) (hB : hn B + 1 < BIG) (hr : l.length < n) (h70 : l.length ≤ 70) (hp : ∀ (C : HP) (J : IM), gr B I C J → hn C = hn B + 2 → oT C J (hn B) (hn B + 1) 4 l → Post (.inl (some (.ref (hn B)))) (wI C J)) : Sp (d + 6) k_J4_toString_0e30d [.ref s] (wI B I) Post := by
  refine Sp_intro md_J4_toString_0e30d rfl rfl (fun G hG => ?_)
  have ho0 := ho
  obtain ⟨o1, o2, o3, o4, o5⟩ := ho
  have tc := ht.2.2.2
  show G 0 [some (.ref s)] [] (wI B I)
  refine q_new hG rfl ?_
  refine q_dup hG rfl rfl ?_
  refine q_aload_n hG rfl rfl ?_
  refine q_callI7 hG rfl rfl rfl (s_T_mk (B := mk B (21, 0) 4) (I := zM I (hn B)) ⟨(kR_mk hsb.1).trans o1, (if_neg (by omega) : (if s = hn B then none else hR B s 0) = _).trans o2, (kR_mk hsb.2).trans o3, o4, o5⟩ (ht.row (funext (fun q => if_neg (by omega))) (funext (fun q => if_neg (by omega)))) (if_pos rfl) (Nat.lt_succ_self _) (by show hn B + 1 < BIG; exact hB) (by show v < hn B + 1; omega) ⟨by omega, by omega⟩ hr (fun J j1 j2 j3 => ?_))
  refine q_aret hG rfl ?_
  have e1 : hn (mk B (21, 0) 4) = hn B + 1 := rfl
  rw [e1] at j1 j3
  have g1 := gr.mk B I (21, 0) 4 (by omega) (by omega)
  have g2 : gr (mk B (21, 0) 4) (zM I (hn B)) (mk (mk B (21, 0) 4) (4, l.length) l.length) (zM (zM I (hn B)) (hn B + 1)) := gr.mk _ _ (4, l.length) l.length hB h70
  have g3 := (g1.trans g2).sR (a := hn B) (i := 0) (v := some (hn B + 1)) ⟨Nat.le_refl _, by omega⟩
  refine hp _ J (g3.mv (fun a ha => ?_)) rfl ⟨?_, ?_, j2, ?_, Or.inl rfl, j3, tc, by omega⟩
  · rw [j1 a (by omega) (by omega)]
    funext q
    exact (if_neg (by omega) : (if a = hn B + 1 then 0 else zM I (hn B) a q) = _).symm
  · show (if hn B = hn B + 1 then _ else if hn B = hn B then _ else _) = _
    rw [if_neg (by omega), if_pos rfl]
  · show (if hn B = hn B ∧ 0 = 0 then _ else _) = _
    rw [if_pos ⟨rfl, rfl⟩]
    rfl
  · show (if hn B + 1 = hn B + 1 then _ else _) = _
    rw [if_pos rfl]
section
variable {M : MDT} {Post : Out → HP → Prop} {G : Nat → LV → List Value → HP → Prop} {pc n1 n2 nx : Nat} {c1 c2 c3 : Int32} {x2 : List Nat} {L : LV} {r : List Value} {B : HP} {I : IM}
/-- a new builder -/
theorem q_nsb {d : Nat} (hG : Cl (Sp (d + 2)) M Post G) {j1 j3 : _} (h1 : lk pc M.1 = some (.new j1, n1, c1, [10, 4])) (h2 : lk n1 M.1 = some (.dup, n2, c2, x2)) (h3 : lk n2 M.1 = some (.invokespecial j3, nx, c3, [7, k_J4_init_da8c8, 1])) (hc : Nat.ble (catS r + 1) 8 = true) (hB : hn B + 1 < BIG)
    (h : ∀ (C : HP) (J : IM), gr B I C J → hn C = hn B + 2 → oS C (hn B) (hn B + 1) 16 → sbT J (hn B) (hn B + 1) [] → G nx L (.ref (hn B) :: r) (wI C J)) : G pc L r (wI B I) := by
  refine q_new hG h1 ?_
  refine q_dup hG h2 rfl ?_
  refine q_callI7 hG h3 rfl (by simpa [catS, noJ, Value.category, Nat.add_comm] using hc) (s_I_J (B := mk B (20, 0) 4) (I := zM I (hn B)) (if_pos rfl) (Nat.lt_succ_self _) (funext (fun q => if_pos rfl)) (fun J z => ?_))
  have e1 : hn (mk B (20, 0) 4) = hn B + 1 := rfl
  rw [e1] at z
  have g1 := gr.mk B I (20, 0) 4 (by omega) (by omega)
  have g2 : gr (mk B (20, 0) 4) (zM I (hn B)) (mk (mk B (20, 0) 4) (4, 16) 16) (zM (zM I (hn B)) (hn B + 1)) := gr.mk _ _ (4, 16) 16 hB (by omega)
  have g3 := (g1.trans g2).sR (a := hn B) (i := 0) (v := some (hn B + 1)) ⟨Nat.le_refl _, by omega⟩
  have e0 : J (hn B) = fun _ => 0 := (z.1 (hn B) (Or.inl (by omega))).trans (funext (fun q => if_pos rfl))
  refine h _ J (g3.mv (fun a ha => ?_)) rfl ⟨?_, ?_, ?_, by omega, by omega⟩ ⟨by rw [e0], by rw [e0]; rfl, fun i hi => absurd hi (by simp), chL.nil⟩
  · rw [z.1 a (by omega)]
    funext q
    exact (if_neg (by omega) : (if a = hn B + 1 then 0 else zM I (hn B) a q) = _).symm
  · show (if hn B = hn B + 1 then _ else if hn B = hn B then _ else _) = _
    rw [if_neg (by omega), if_pos rfl]
  · show (if hn B = hn B ∧ 0 = 0 then _ else _) = _
    rw [if_pos ⟨rfl, rfl⟩]
    rfl
  · show (if hn B + 1 = hn B + 1 then _ else _) = _
    rw [if_pos rfl]
end
