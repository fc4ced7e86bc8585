/-! throws, copies, the JDK's small functions, switches -/
theorem catS_sum : ∀ l : List Value, (l.map fun v => v.category).sum = catS l
  | [] => rfl
  | v :: l => by rw [List.map_cons, List.sum_cons, catS_sum l]; rfl
theorem stR.sum {B : Nat} {CS : KT} {st ms : List Value} (h : stR B CS st ms) : (ms.map fun v => v.category).sum = catS st := by rw [h.cats, catS_sum]
/-- a throw's words -/
def ixE (E : Nat) : Nat := match E with
  | 3 => 13
  | _ => 7
def rxE (E : Nat) : ByteArray := match E with
  | 3 => ⟨#[0x2a, 0x2b, 0xb7, 0x00, 0x0d, 0xb1]⟩
  | _ => Bundle.six
theorem rxE_ok : ∀ E, E < 6 → rxOK (ixE E) (rxE E) := by
  have h : ∀ E, E < 6 → decode (rxE E) 0 = .ok (.aload_n 0, 1) ∧ decode (rxE E) 1 = .ok (.aload_n 1, 1) ∧ decode (rxE E) 2 = .ok (.invokespecial (ixE E), 3) ∧ decode (rxE E) 5 = .ok (.return_, 1) := by decide +kernel
  exact h
def tOK (own : String) (ik is ic : Nat) (text : String) (E : Nat) : Prop := E < 6 ∧ Jvm.Cond.classLink own ik (exN E) ∈ lw_tb ∧ Jvm.Cond.initialized (exN E) ∈ lw_tb ∧ (own, is, text) ∈ msgT ∧
  (vx_aX own ic (exN E) (ixE E) (rxE E) ["java/lang/RuntimeException", "java/lang/Exception"]).all (fun w => decide (w ∈ lw_tb) && pW w && vx_ot w) = true
theorem ex_fit : ∀ E, E < 6 → Bundle.fit (exN E) = true := by decide +kernel
section CW
variable {p : Program} {l : Launch} {e : Env} {R : Room} {s : State} {m : MethodId} {args : Array Value} {below : List Frame} {meth : Method} {c : Code} {H : Heap} {locs : List Loc} {cells slots : Nat} {Q : State → Prop}
variable {cc : ByteArray} {pc : Nat} {ls : Array Slot} {rest : List Value} {D : va_G} {cl : List vw_C} {a : Nat} {tys : List (ClassId × FieldType)}
theorem w_copy {cc : ByteArray} (hexec : p.tables.exec = Jvm.exec) (hb : c.code = cc) (hml : c.maxLocals = ls.size) {own : String} {index : Nat} (hown : s.vm.findClass own = some m.cls) (hlink : (Cond.methodLink own index arraycopyName).before args s = true) (hnat : (Cond.native arraycopyName).before args s = true) (hstat : (Cond.static arraycopyName).before args s = true) (hini : (Cond.initialized "java/lang/System").before args s = true)
    (hK : va_K D cl tys s) (t0 t1 : Nat) {a0 : Nat} {c0 c1 : ClassId} {n0 n1 : Nat} {f g : Nat → Int32} {ty : FieldType} (hc0 : H[a0]? = some (vp_cell c0 (n0, .inl f))) (hc1 : H[a]? = some (vp_cell c1 (n1, .inl g))) (ht0 : tys[t0]? = some (c0, ty)) (ht1 : tys[t1]? = some (c1, ty)) (hprim : refKind ty = false)
    {sp dp n : Int32} (h1 : ¬ sp < 0) (h2 : ¬ dp < 0) (h3 : ¬ n < 0) (h4 : sp.toNatClampNeg + n.toNatClampNeg ≤ n0) (h5 : dp.toNatClampNeg + n.toNatClampNeg ≤ n1) (hfit : ∀ i, i < n.toNatClampNeg → fits ty (.int (f (sp.toNatClampNeg + i))) = true)
    (hframes : 1 ≤ R.frames) (hlocals : (rest.map fun v => v.category).sum + (nativeFrameWords "java/lang/System" "arraycopy" 5 + 11) ≤ R.locals) (hdg : decode cc pc = .ok (.invokestatic index, 3))
    (kk : ∀ (H1 : Heap) (L : List Loc), (∀ z ∈ L, z.base = a) → H1.size = H.size → (∀ q : Nat, q ≠ a → H1[q]? = H[q]?) → H1[a]? = some (vp_cell c1 (n1, .inl (va_cpy f g sp.toNatClampNeg dp.toNatClampNeg n.toNatClampNeg))) → W p l e R s m args below meth c H1 (locs ++ L) cells slots Q (F0 m (pc + 3) ls rest)) : W p l e R s m args below meth c H locs cells slots Q (F0 m pc ls (.int n :: .int dp :: .ref a :: .int sp :: .ref a0 :: rest)) := by
  have nn : ∀ z : Int32, ¬ z < 0 → z.toInt = (z.toNatClampNeg : Int) := by
    intro z hz
    have hz0 : (0 : Int) ≤ z.toInt := by
      have := Int32.not_lt.mp hz
      simpa using Int32.le_iff_toInt_le.mp this
    show z.toInt = ((z.toInt.toNat : Nat) : Int)
    omega
  intro T hT X
  obtain ⟨-, k0, hk0, cm0, hkk0⟩ := (hK.2 t0 _ ht0).1 n0 (fun j => .int (f j))
  obtain ⟨-, k1, hk1, cm1, hkk1⟩ := (hK.2 t1 _ ht1).1 n1 (fun j => .int (g j))
  obtain ⟨vm', X', step⟩ := X.arraycopy hexec hown hlink hnat hstat hini (src := a0) (dst := a) (cs := vp_cell c0 (n0, .inl f)) (cd := vp_cell c1 (n1, .inl g)) (srcPos := sp) (destPos := dp) (n := n) (by rw [hT]; exact hc0) (by rw [hT]; exact hc1)
    (fun _ h => by cases h) (fun _ h => by cases h) (fun h => by cases h) (fun h => by cases h) hk0 hk1 hkk0 hkk1 (by simp [hprim]) h1 h2 h3
    (by rw [nn sp h1, nn n h3]; show ¬ _ > ((arrV c0 n0 (fun j => .int (f j))).slots.size : Int); rw [arrV_size]; omega)
    (by rw [nn dp h2, nn n h3]; show ¬ _ > ((arrV c1 n1 (fun j => .int (g j))).slots.size : Int); rw [arrV_size]; omega)
    (fun vm₁ _ i hi => by
      have e : (vp_cell c0 (n0, .inl f)).slots.getD (sp.toNatClampNeg + i) .null = .int (f (sp.toNatClampNeg + i)) := by
        show (arrV c0 n0 (fun j => .int (f j))).slots.getD _ _ = _
        rw [Array.getD_eq_getD_getElem?, arrV_read _ _ (by omega)]
        rfl
      refine ⟨?_, ?_⟩
      · rw [e]
        exact hfit i hi
      · rw [e]
        exact trivial)
    (g := F0 m pc ls (.int n :: .int dp :: .ref a :: .int sp :: .ref a0 :: rest)) rfl (by rw [hml]) (rest := rest) rfl (by rw [hb]; exact hdg) hframes (by show 2 * 0 + _ + _ ≤ _; omega)
  have e1 : copied (vp_cell c0 (n0, .inl f)) (vp_cell c1 (n1, .inl g)) sp dp n = vp_cell c1 (n1, .inl (va_cpy f g sp.toNatClampNeg dp.toNatClampNeg n.toNatClampNeg)) := va_copied (fun z => .int z) c0 c1 f g h4
  rw [e1] at X' step
  have hl : a < H.size := (Array.getElem?_eq_some_iff.mp hc1).1
  have hheap : ((T.setVm vm').setCell a (vp_cell c1 (n1, .inl (va_cpy f g sp.toNatClampNeg dp.toNatClampNeg n.toNatClampNeg)))).heap = H.setIfInBounds a (vp_cell c1 (n1, .inl (va_cpy f g sp.toNatClampNeg dp.toNatClampNeg n.toNatClampNeg))) := by rw [← hT]; rfl
  have oq : ∀ q : Nat, q ≠ a → (H.setIfInBounds a (vp_cell c1 (n1, .inl (va_cpy f g sp.toNatClampNeg dp.toNatClampNeg n.toNatClampNeg))))[q]? = H[q]? := fun q hq => by simp [Array.getElem?_setIfInBounds, Ne.symm hq]
  obtain ⟨t, a1, b1⟩ := kk _ _ (fun z hz => by
      obtain ⟨y, -, hy⟩ := List.mem_map.mp hz
      rw [← hy]) (by simp) oq (show (H.setIfInBounds a _)[a]? = some _ by simp [Array.getElem?_setIfInBounds, hl]) _ hheap X'
  exact ⟨t, step t a1, b1⟩
theorem w_copyK {cc : ByteArray} (hexec : p.tables.exec = Jvm.exec) (hb : c.code = cc) (hml : c.maxLocals = ls.size) {own : String} {index : Nat} (hown : s.vm.findClass own = some m.cls) (hlink : (Cond.methodLink own index arraycopyName).before args s = true) (hnat : (Cond.native arraycopyName).before args s = true) (hstat : (Cond.static arraycopyName).before args s = true) (hini : (Cond.initialized "java/lang/System").before args s = true)
    (hK : va_K D cl tys s) (t1 : Nat) {a0 : Nat} {c1 : ClassId} {n0 n1 : Nat} {f g : Nat → Int32} {scr : Cell} (hc0 : H[a0]? = some scr) (hs2 : s.isArrayOf scr .byte) (hs3 : scr.vm ≠ .unknown) (hs4 : n0 ≤ scr.slots.size) (hs5 : ∀ j : Nat, j < n0 → scr.slots[j]? = some (.int (f j))) (hc1 : H[a]? = some (vp_cell c1 (n1, .inl g))) (ht1 : tys[t1]? = some (c1, .byte))
    {sp dp n : Int32} (h1 : ¬ sp < 0) (h2 : ¬ dp < 0) (h3 : ¬ n < 0) (h4 : sp.toNatClampNeg + n.toNatClampNeg ≤ n0) (h5 : dp.toNatClampNeg + n.toNatClampNeg ≤ n1) (hfit : ∀ i, i < n.toNatClampNeg → fits .byte (.int (f (sp.toNatClampNeg + i))) = true)
    (hframes : 1 ≤ R.frames) (hlocals : (rest.map fun v => v.category).sum + (nativeFrameWords "java/lang/System" "arraycopy" 5 + 11) ≤ R.locals) (hdg : decode cc pc = .ok (.invokestatic index, 3))
    (kk : ∀ (H1 : Heap) (L : List Loc), (∀ z ∈ L, z.base = a) → H1.size = H.size → (∀ q : Nat, q ≠ a → H1[q]? = H[q]?) → H1[a]? = some (vp_cell c1 (n1, .inl (va_cpy f g sp.toNatClampNeg dp.toNatClampNeg n.toNatClampNeg))) → W p l e R s m args below meth c H1 (locs ++ L) cells slots Q (F0 m (pc + 3) ls rest)) : W p l e R s m args below meth c H locs cells slots Q (F0 m pc ls (.int n :: .int dp :: .ref a :: .int sp :: .ref a0 :: rest)) := by
  have nn : ∀ z : Int32, ¬ z < 0 → z.toInt = (z.toNatClampNeg : Int) := by
    intro z hz
    have hz0 : (0 : Int) ≤ z.toInt := by
      have := Int32.not_lt.mp hz
      simpa using Int32.le_iff_toInt_le.mp this
    show z.toInt = ((z.toInt.toNat : Nat) : Int)
    omega
  intro T hT X
  obtain ⟨hs6, k0, hk0, cm0, hkk0⟩ := hs2
  obtain ⟨-, k1, hk1, cm1, hkk1⟩ := (hK.2 t1 _ ht1).1 n1 (fun j => .int (g j))
  obtain ⟨vm', X', step⟩ := X.arraycopy hexec hown hlink hnat hstat hini (src := a0) (dst := a) (cs := scr) (cd := vp_cell c1 (n1, .inl g)) (srcPos := sp) (destPos := dp) (n := n) (by rw [hT]; exact hc0) (by rw [hT]; exact hc1)
    hs6 (fun _ h => by cases h) hs3 (fun h => by cases h) hk0 hk1 hkk0 hkk1 (by simp [refKind]) h1 h2 h3
    (by rw [nn sp h1, nn n h3]; omega)
    (by rw [nn dp h2, nn n h3]; show ¬ _ > ((arrV c1 n1 (fun j => .int (g j))).slots.size : Int); rw [arrV_size]; omega)
    (fun vm₁ _ i hi => by
      have e : scr.slots.getD (sp.toNatClampNeg + i) .null = .int (f (sp.toNatClampNeg + i)) := by
        rw [Array.getD_eq_getD_getElem?, hs5 _ (by omega)]
        rfl
      refine ⟨?_, ?_⟩
      · rw [e]
        exact hfit i hi
      · rw [e]
        exact trivial)
    (g := F0 m pc ls (.int n :: .int dp :: .ref a :: .int sp :: .ref a0 :: rest)) rfl (by rw [hml]) (rest := rest) rfl (by rw [hb]; exact hdg) hframes (by show 2 * 0 + _ + _ ≤ _; omega)
  have e1 : copied scr (vp_cell c1 (n1, .inl g)) sp dp n = vp_cell c1 (n1, .inl (va_cpy f g sp.toNatClampNeg dp.toNatClampNeg n.toNatClampNeg)) := va_copiedX (fun z => .int z) scr c1 f g hs5 h4
  rw [e1] at X' step
  have hl : a < H.size := (Array.getElem?_eq_some_iff.mp hc1).1
  have hheap : ((T.setVm vm').setCell a (vp_cell c1 (n1, .inl (va_cpy f g sp.toNatClampNeg dp.toNatClampNeg n.toNatClampNeg)))).heap = H.setIfInBounds a (vp_cell c1 (n1, .inl (va_cpy f g sp.toNatClampNeg dp.toNatClampNeg n.toNatClampNeg))) := by rw [← hT]; rfl
  have oq : ∀ q : Nat, q ≠ a → (H.setIfInBounds a (vp_cell c1 (n1, .inl (va_cpy f g sp.toNatClampNeg dp.toNatClampNeg n.toNatClampNeg))))[q]? = H[q]? := fun q hq => by simp [Array.getElem?_setIfInBounds, Ne.symm hq]
  obtain ⟨t, a1, b1⟩ := kk _ _ (fun z hz => by
      obtain ⟨y, -, hy⟩ := List.mem_map.mp hz
      rw [← hy]) (by simp) oq (show (H.setIfInBounds a _)[a]? = some _ by simp [Array.getElem?_setIfInBounds, hl]) _ hheap X'
  exact ⟨t, step t a1, b1⟩
end CW
section IN
variable {own : String} {cc : ByteArray} {nL : Nat} {rt : Option FieldType} {ini : Bool} {hh : List (Nat × Nat × Nat × Nat)} {d n0 w0 : Nat} {o : Out} {A A' : HP} {pc : Nat} {L : LV} {st : List Value}
theorem in_throw {ik is ic E : Nat} {text : String} (d0 : decode cc pc = .ok (.new ik, 3)) (d3 : decode cc (pc + 3) = .ok (.dup, 1)) (d4 : decode cc (pc + 4) = .ok (.ldc is, 2)) (d6 : decode cc (pc + 6) = .ok (.invokespecial ic, 3)) (d9 : decode cc (pc + 9) = .ok (.athrow, 1)) (hf : tOK own ik is ic text E) (hhh : hh = []) (h0 : n0 ≤ hn A) (h1 : w0 ≤ hw A) : Inn own cc nL rt ini hh d n0 w0 (.inr E) (junk A 6) pc L [] A := by
  intro p l e R s m args below meth c B Hb CS dC dI dA F hRm hB H locs ls ms hr hlo hL hst
  obtain ⟨hx, hb, hml, hlk, hown, hrt, hini, hT, hs0, hlw, hC⟩ := id F
  cases (show ms = [] from hst)
  obtain ⟨hE, hk, hi, hmsg, hall⟩ := hf
  obtain ⟨sa, hstr⟩ := hC.2.2.2.1 _ hmsg
  obtain ⟨g1, g2, g3, g4⟩ := hRm
  have hwz : ∀ w ∈ vx_aX own ic (exN E) (ixE E) (rxE E) ["java/lang/RuntimeException", "java/lang/Exception"], w ∈ lw_tb ∧ pW w = true ∧ vx_ot w = true := fun w hw9 => by
    have h := List.all_eq_true.mp hall w hw9
    simpa [and_assoc] using h
  have hlow : ∀ a : Nat, a < Hb.size → ¬ (fun q : Nat => B ≤ q) a → s.heap[a]? = Hb[a]? := fun a ha _ => hlw a (by rw [hr.1] at ha; exact ha)
  have hS : va_S (fun q : Nat => B ≤ q) s.heap H locs := ⟨by rw [hs0, hr.size]; omega, fun q hq hq2 => by rw [hr.2.2.2.1 q (by omega), hlw q (by omega)], hlo⟩
  refine vx_throwSz (Y0 := "java/lang/RuntimeException") (names := ["java/lang/Exception"]) (hrx := rxE_ok E hE) (A := fun q : Nat => B ≤ q) hx hb hC.1 hown (ex_fit E hE) (by decide +kernel) (by decide +kernel) (hC.2.1 _ hk rfl args) (hC.2.1 _ hi rfl args) hstr (fun w h => hC.2.1 w (hwz w h).1 (hwz w h).2.1 args)
    (fun w h => by
      rcases List.mem_cons.mp h with rfl | h
      · rfl
      rcases List.mem_cons.mp h with rfl | h
      · rfl
      · exact (hwz w h).2.2) ((hC.2.2.2.2.2.1).kept hlow) ((hC.2.2.2.2.2.2.1).kept hlow) hS (by obtain ⟨l9, h9, -⟩ := hL; rw [h9.1, hml]) d0 d3 d4 d6 d9
    (fun x hx9 => by
      rw [hhh] at hT
      have : c.exceptionTable.toList = [] := List.map_eq_nil_iff.mp hT
      rw [this] at hx9
      cases hx9)
    (by simp only [List.length_cons, List.length_nil, FRd] at g1 ⊢; omega) (by simp only [List.map_nil, List.sum_nil, List.length_cons, List.length_nil, LRd] at g2 ⊢; omega)
    (by have : hn (junk A 6) = hn A + 1 := rfl; omega) (by have : hw (junk A 6) = hw A + 6 := rfl; omega) hlk
    (fun t ht hsz hun => ⟨E, rfl, rfl, hr.junked hsz hun (by have : hn (junk A 6) = hn A + 1 := rfl; omega)⟩) hlo (by have : hn (junk A 6) = hn A + 1 := rfl; omega) (by have : hw (junk A 6) = hw A + 6 := rfl; omega)
theorem in_throwW {ik is ic E : Nat} {text : String} (d0 : decode cc pc = .ok (.new ik, 3)) (d3 : decode cc (pc + 3) = .ok (.dup, 1)) (d4 : decode cc (pc + 4) = .ok (.ldc_w is, 3)) (d6 : decode cc (pc + 7) = .ok (.invokespecial ic, 3)) (d9 : decode cc (pc + 10) = .ok (.athrow, 1)) (hf : tOK own ik is ic text E) (hhh : hh = []) (h0 : n0 ≤ hn A) (h1 : w0 ≤ hw A) : Inn own cc nL rt ini hh d n0 w0 (.inr E) (junk A 6) pc L [] A := by
  intro p l e R s m args below meth c B Hb CS dC dI dA F hRm hB H locs ls ms hr hlo hL hst
  obtain ⟨hx, hb, hml, hlk, hown, hrt, hini, hT, hs0, hlw, hC⟩ := id F
  cases (show ms = [] from hst)
  obtain ⟨hE, hk, hi, hmsg, hall⟩ := hf
  obtain ⟨sa, hstr⟩ := hC.2.2.2.1 _ hmsg
  obtain ⟨g1, g2, g3, g4⟩ := hRm
  have hwz : ∀ w ∈ vx_aX own ic (exN E) (ixE E) (rxE E) ["java/lang/RuntimeException", "java/lang/Exception"], w ∈ lw_tb ∧ pW w = true ∧ vx_ot w = true := fun w hw9 => by
    have h := List.all_eq_true.mp hall w hw9
    simpa [and_assoc] using h
  have hlow : ∀ a : Nat, a < Hb.size → ¬ (fun q : Nat => B ≤ q) a → s.heap[a]? = Hb[a]? := fun a ha _ => hlw a (by rw [hr.1] at ha; exact ha)
  have hS : va_S (fun q : Nat => B ≤ q) s.heap H locs := ⟨by rw [hs0, hr.size]; omega, fun q hq hq2 => by rw [hr.2.2.2.1 q (by omega), hlw q (by omega)], hlo⟩
  refine vx_throwSWz (Y0 := "java/lang/RuntimeException") (names := ["java/lang/Exception"]) (hrx := rxE_ok E hE) (A := fun q : Nat => B ≤ q) hx hb hC.1 hown (ex_fit E hE) (by decide +kernel) (by decide +kernel) (hC.2.1 _ hk rfl args) (hC.2.1 _ hi rfl args) hstr (fun w h => hC.2.1 w (hwz w h).1 (hwz w h).2.1 args)
    (fun w h => by
      rcases List.mem_cons.mp h with rfl | h
      · rfl
      rcases List.mem_cons.mp h with rfl | h
      · rfl
      · exact (hwz w h).2.2) ((hC.2.2.2.2.2.1).kept hlow) ((hC.2.2.2.2.2.2.1).kept hlow) hS (by obtain ⟨l9, h9, -⟩ := hL; rw [h9.1, hml]) d0 d3 d4 d6 d9
    (fun x hx9 => by
      rw [hhh] at hT
      have : c.exceptionTable.toList = [] := List.map_eq_nil_iff.mp hT
      rw [this] at hx9
      cases hx9)
    (by simp only [List.length_cons, List.length_nil, FRd] at g1 ⊢; omega) (by simp only [List.map_nil, List.sum_nil, List.length_cons, List.length_nil, LRd] at g2 ⊢; omega)
    (by have : hn (junk A 6) = hn A + 1 := rfl; omega) (by have : hw (junk A 6) = hw A + 6 := rfl; omega) hlk
    (fun t ht hsz hun => ⟨E, rfl, rfl, hr.junked hsz hun (by have : hn (junk A 6) = hn A + 1 := rfl; omega)⟩) hlo (by have : hn (junk A 6) = hn A + 1 := rfl; omega) (by have : hw (junk A 6) = hw A + 6 := rfl; omega)
theorem in_max {ix : Nat} {v w : Int32} (hd : decode cc pc = .ok (.invokestatic ix, 3)) (hl : Jvm.Cond.methodLink own ix Lib.Math.max.name ∈ lw_tb ∧ Jvm.Cond.static Lib.Math.max.name ∈ lw_tb ∧ Jvm.Cond.initialized "java/lang/Math" ∈ lw_tb ∧ Jvm.Cond.code Lib.Math.max.name Lib.Math.max.code 2 (some .int) ∈ lw_tb) (hcat : catS st ≤ 8) (h0 : hn A ≤ hn A') (h1 : hw A ≤ hw A') (K : Inn own cc nL rt ini hh d n0 w0 o A' (pc + 3) L (.int (if v < w then w else v) :: st) A) : Inn own cc nL rt ini hh d n0 w0 o A' pc L (.int w :: .int v :: st) A := by
  intro p l e R s m args below meth c B Hb CS dC dI dA F hRm hB H locs ls ms hr hlo hL hst
  obtain ⟨hx, hb, hml, hlk, hown, hrt, hini, hT, hs0, hlw, hC⟩ := id F
  obtain ⟨mv, r, rfl, h1v, mw, r2, rfl, h2v, hst⟩ := hst
  cases (show mv = Value.int w from h1v)
  cases (show mw = Value.int v from h2v)
  obtain ⟨g1, g2, g3, g4⟩ := hRm
  have hcs := hst.sum
  exact va_mmax hx hb (by obtain ⟨l9, h9, -⟩ := hL; rw [h9.1, hml]) hown (hC.2.1 _ hl.1 rfl args) (hC.2.1 _ hl.2.1 rfl args) (hC.2.1 _ hl.2.2.1 rfl args) (hC.2.1 _ hl.2.2.2 rfl args) (by unfold FRd at g1; omega) (by rw [hcs]; unfold LRd at g2; omega) (by omega) (by omega) hd (K p l e R s m args below meth c B Hb CS dC dI dA F ⟨g1, g2, g3, g4⟩ hB H locs ls (_ :: r2) hr hlo hL (stR.cons rfl hst))
theorem in_min {ix : Nat} {v w : Int32} (hd : decode cc pc = .ok (.invokestatic ix, 3)) (hl : Jvm.Cond.methodLink own ix Lib.Math.min.name ∈ lw_tb ∧ Jvm.Cond.static Lib.Math.min.name ∈ lw_tb ∧ Jvm.Cond.initialized "java/lang/Math" ∈ lw_tb ∧ Jvm.Cond.code Lib.Math.min.name Lib.Math.min.code 2 (some .int) ∈ lw_tb) (hcat : catS st ≤ 8) (h0 : hn A ≤ hn A') (h1 : hw A ≤ hw A') (K : Inn own cc nL rt ini hh d n0 w0 o A' (pc + 3) L (.int (if w < v then w else v) :: st) A) : Inn own cc nL rt ini hh d n0 w0 o A' pc L (.int w :: .int v :: st) A := by
  intro p l e R s m args below meth c B Hb CS dC dI dA F hRm hB H locs ls ms hr hlo hL hst
  obtain ⟨hx, hb, hml, hlk, hown, hrt, hini, hT, hs0, hlw, hC⟩ := id F
  obtain ⟨mv, r, rfl, h1v, mw, r2, rfl, h2v, hst⟩ := hst
  cases (show mv = Value.int w from h1v)
  cases (show mw = Value.int v from h2v)
  obtain ⟨g1, g2, g3, g4⟩ := hRm
  have hcs := hst.sum
  exact va_mmin hx hb (by obtain ⟨l9, h9, -⟩ := hL; rw [h9.1, hml]) hown (hC.2.1 _ hl.1 rfl args) (hC.2.1 _ hl.2.1 rfl args) (hC.2.1 _ hl.2.2.1 rfl args) (hC.2.1 _ hl.2.2.2 rfl args) (by unfold FRd at g1; omega) (by rw [hcs]; unfold LRd at g2; omega) (by omega) (by omega) hd (K p l e R s m args below meth c B Hb CS dC dI dA F ⟨g1, g2, g3, g4⟩ hB H locs ls (_ :: r2) hr hlo hL (stR.cons rfl hst))
theorem in_abs {ix : Nat} {v : Int32} (hd : decode cc pc = .ok (.invokestatic ix, 3)) (hl : Jvm.Cond.methodLink own ix Lib.Math.abs.name ∈ lw_tb ∧ Jvm.Cond.static Lib.Math.abs.name ∈ lw_tb ∧ Jvm.Cond.initialized "java/lang/Math" ∈ lw_tb ∧ Jvm.Cond.code Lib.Math.abs.name Lib.Math.abs.code 1 (some .int) ∈ lw_tb) (hcat : catS st ≤ 8) (h0 : hn A ≤ hn A') (h1 : hw A ≤ hw A') (K : Inn own cc nL rt ini hh d n0 w0 o A' (pc + 3) L (.int (if 0 ≤ v then v else 0 - v) :: st) A) : Inn own cc nL rt ini hh d n0 w0 o A' pc L (.int v :: st) A := by
  intro p l e R s m args below meth c B Hb CS dC dI dA F hRm hB H locs ls ms hr hlo hL hst
  obtain ⟨hx, hb, hml, hlk, hown, hrt, hini, hT, hs0, hlw, hC⟩ := id F
  obtain ⟨mv, r, rfl, h1v, hst⟩ := hst
  cases (show mv = Value.int v from h1v)
  obtain ⟨g1, g2, g3, g4⟩ := hRm
  have hcs := hst.sum
  exact va_mabs hx hb (by obtain ⟨l9, h9, -⟩ := hL; rw [h9.1, hml]) hown (hC.2.1 _ hl.1 rfl args) (hC.2.1 _ hl.2.1 rfl args) (hC.2.1 _ hl.2.2.1 rfl args) (hC.2.1 _ hl.2.2.2 rfl args) (by unfold FRd at g1; omega) (by rw [hcs]; unfold LRd at g2; omega) (by omega) (by omega) hd (K p l e R s m args below meth c B Hb CS dC dI dA F ⟨g1, g2, g3, g4⟩ hB H locs ls (_ :: r) hr hlo hL (stR.cons rfl hst))
theorem in_objInit {ix a : Nat} (hd : decode cc pc = .ok (.invokespecial ix, 3)) (hl : Jvm.Cond.methodLink own ix Lib.objectInit ∈ lw_tb ∧ Jvm.Cond.instanceMethod Lib.objectInit ∈ lw_tb ∧ Jvm.Cond.code Lib.objectInit ⟨#[0xb1]⟩ 1 none ∈ lw_tb) (hcat : catS st ≤ 8) (K : Inn own cc nL rt ini hh d n0 w0 o A' (pc + 3) L st A) : Inn own cc nL rt ini hh d n0 w0 o A' pc L (.ref a :: st) A := by
  intro p l e R s m args below meth c B Hb CS dC dI dA F hRm hB H locs ls ms hr hlo hL hst
  obtain ⟨hx, hb, hml, hlk, hown, hrt, hini, hT, hs0, hlw, hC⟩ := id F
  obtain ⟨mv, r, rfl, h1v, hst⟩ := hst
  cases (show mv = Value.ref (adr B CS a) from h1v)
  obtain ⟨g1, g2, g3, g4⟩ := hRm
  have hcs := hst.sum
  exact W.objInit hx hb hown (hC.2.1 _ hl.1 rfl args) (hC.2.1 _ hl.2.1 rfl args) (hC.2.1 _ hl.2.2 rfl args) rfl (by obtain ⟨l9, h9, -⟩ := hL; show ls.size = _; rw [h9.1, hml]) rfl hd (by unfold FRd at g1; omega) (by show 2 * 0 + _ + 12 ≤ _; rw [hcs]; unfold LRd at g2; omega) (K p l e R s m args below meth c B Hb CS dC dI dA F ⟨g1, g2, g3, g4⟩ hB H locs ls r hr hlo hL hst)
theorem in_copy {ix d9 s9 t t1 z n n1 : Nat} {ty : FieldType} {sp dp ct : Int32} (hd : decode cc pc = .ok (.invokestatic ix, 3)) (hl : Jvm.Cond.methodLink own ix arraycopyName ∈ lw_tb ∧ Jvm.Cond.native arraycopyName ∈ lw_tb ∧ Jvm.Cond.static arraycopyName ∈ lw_tb ∧ Jvm.Cond.initialized "java/lang/System" ∈ lw_tb) (hks : hK A s9 = (t, n)) (hkd : hK A d9 = (t1, n1)) (hcs : ∀ B CS dA, celA B CS dA A s9 = some (.inl (dA t1, n, .inl (hI A s9)))) (hcd : ∀ (A1 : HP), hK A1 = hK A → ∀ B CS dA, celA B CS dA A1 d9 = some (.inl (dA t1, n1, .inl (hI A1 d9)))) (hty : ∀ dA, (tyA dA)[z]? = some (dA t1, ty)) (hpr : refKind ty = false) (ht1 : t1 ≠ 0 ∧ (t1 ≠ 8 ∧ t1 ≠ 9) ∧ t1 ≠ 21)
    (h1 : ¬ sp < 0) (h2 : ¬ dp < 0) (h3 : ¬ ct < 0) (h4 : sp.toNatClampNeg + ct.toNatClampNeg ≤ n) (h5 : dp.toNatClampNeg + ct.toNatClampNeg ≤ n1) (hfit : ∀ i, i < ct.toNatClampNeg → fits ty (.int (hI A s9 (sp.toNatClampNeg + i))) = true) (K : Inn own cc nL rt ini hh d n0 w0 o A' (pc + 3) L [] (cpI A s9 sp.toNatClampNeg d9 dp.toNatClampNeg ct.toNatClampNeg)) : Inn own cc nL rt ini hh d n0 w0 o A' pc L [.int ct, .int dp, .ref d9, .int sp, .ref s9] A := by
  intro p l e R s m args below meth c B Hb CS dC dI dA F hRm hB H locs ls ms hr hlo hL hst
  obtain ⟨hx, hb, hml, hlk, hown, hrt, hini, hT, hs0, hlw, hC⟩ := id F
  obtain ⟨m1, r1, rfl, j1, m2, r2, rfl, j2, m3, r3, rfl, j3, m4, r4, rfl, j4, m5, r5, rfl, j5, hst⟩ := hst
  cases (show m1 = Value.int ct from j1)
  cases (show m2 = Value.int dp from j2)
  cases (show m3 = Value.ref (adr B CS d9) from j3)
  cases (show m4 = Value.int sp from j4)
  cases (show m5 = Value.ref (adr B CS s9) from j5)
  cases (show r5 = [] from hst)
  obtain ⟨g1, g2, g3, g4⟩ := hRm
  obtain ⟨ha1, ha2, ha3⟩ := hr.own hkd ht1.1 ht1.2.1 (fun h9 => absurd h9 ht1.2.2)
  have c0 := hr.at (hcs B CS dA)
  have c1 := hr.at (hcd A rfl B CS dA)
  rw [ha3] at c1 ⊢
  refine w_copy (D := (dC, dI)) (cl := wcl) (tys := tyA dA) hx hb (by obtain ⟨l9, h9, -⟩ := hL; rw [h9.1, hml]) hown (hC.2.1 _ hl.1 rfl args) (hC.2.1 _ hl.2.1 rfl args) (hC.2.1 _ hl.2.2.1 rfl args) (hC.2.1 _ hl.2.2.2 rfl args) hC.2.2.1 z z c0 c1 (hty dA) (hty dA) hpr h1 h2 h3 h4 h5 hfit (by unfold FRd at g1; omega) (by
    have : nativeFrameWords "java/lang/System" "arraycopy" 5 + 11 ≤ 400 := by decide +kernel
    simp only [List.map_nil, List.sum_nil]
    unfold LRd at g2
    omega) hd (fun H1 L9 hL9 e1 e2 e3 => ?_)
  refine (K p l e R s m args below meth c B Hb CS dC dI dA F ⟨g1, g2, g3, g4⟩ hB H1 (locs ++ L9) ls [] ?_ ?_ hL rfl)
  · refine hr.put ha1 e1 e2 rfl rfl (fun b hb => ?_) (fun e' he' => ?_)
    · exact c5 rfl (by funext q; simp [hI, cpI, hb]) rfl rfl rfl
    · rw [hcd (cpI A s9 sp.toNatClampNeg d9 dp.toNatClampNeg ct.toNatClampNeg) rfl B CS dA] at he'
      cases he'
      show H1[B + d9]? = some (vp_cell _ _)
      rw [e3]
      refine congrArg (fun f => some (vp_cell (dA t1) (n1, Sum.inl f))) (funext fun q => ?_)
      simp [hI, cpI, va_cpy]
  · intro y hy
    rcases List.mem_append.mp hy with h | h
    · exact hlo y h
    · rw [hL9 y h]; show B ≤ B + d9; omega
theorem in_copyK {ix d9 s9 n n1 : Nat} {sp dp ct : Int32} (hd : decode cc pc = .ok (.invokestatic ix, 3)) (hl : Jvm.Cond.methodLink own ix arraycopyName ∈ lw_tb ∧ Jvm.Cond.native arraycopyName ∈ lw_tb ∧ Jvm.Cond.static arraycopyName ∈ lw_tb ∧ Jvm.Cond.initialized "java/lang/System" ∈ lw_tb) (g0 : n0 ≤ hn A) (hks : hK A s9 = (8, n)) (hkd : hK A d9 = (4, n1))
    (h1 : ¬ sp < 0) (h2 : ¬ dp < 0) (h3 : ¬ ct < 0) (h4 : sp.toNatClampNeg + ct.toNatClampNeg ≤ n) (h5 : dp.toNatClampNeg + ct.toNatClampNeg ≤ n1) (hfit : ∀ i, i < ct.toNatClampNeg → fits .byte (.int (hI A s9 (sp.toNatClampNeg + i))) = true) (K : Inn own cc nL rt ini hh d n0 w0 o A' (pc + 3) L [] (cpI A s9 sp.toNatClampNeg d9 dp.toNatClampNeg ct.toNatClampNeg)) : Inn own cc nL rt ini hh d n0 w0 o A' pc L [.int ct, .int dp, .ref d9, .int sp, .ref s9] A := by
  intro p l e R s m args below meth c B Hb CS dC dI dA F hRm hB H locs ls ms hr hlo hL hst
  obtain ⟨hx, hb, hml, hlk, hown, hrt, hini, hT, hs0, hlw, hC⟩ := id F
  obtain ⟨m1, r1, rfl, j1, m2, r2, rfl, j2, m3, r3, rfl, j3, m4, r4, rfl, j4, m5, r5, rfl, j5, hst⟩ := hst
  cases (show m1 = Value.int ct from j1)
  cases (show m2 = Value.int dp from j2)
  cases (show m3 = Value.ref (adr B CS d9) from j3)
  cases (show m4 = Value.int sp from j4)
  cases (show m5 = Value.ref (adr B CS s9) from j5)
  cases (show r5 = [] from hst)
  obtain ⟨g1, g2, g3, g4⟩ := hRm
  obtain ⟨ha1, ha2, ha3⟩ := hr.own hkd (by simp) (by simp) (by simp)
  obtain ⟨k, e1, e2, e3, e4, e5⟩ := hr.kon hks (Or.inl rfl)
  obtain ⟨scr, v1, v2, v3, v4, -, v6, v7⟩ := (hC.2.2.2.2.2.2.2.2.2.2.2 k n).1 e3
  rw [e4] at v6
  have c1 := hr.at (celA_4 (B := B) (CS := CS) (dA := dA) hkd)
  have hlt : CS.1 k < B := Nat.not_le.mp v7
  have c0 : H[CS.1 k]? = some scr := by rw [hr.2.2.2.1 _ hlt]; exact v1
  rw [ha3] at c1 ⊢
  rw [e2]
  refine w_copyK (D := (dC, dI)) (cl := wcl) (tys := tyA dA) hx hb (by obtain ⟨l9, h9, -⟩ := hL; rw [h9.1, hml]) hown (hC.2.1 _ hl.1 rfl args) (hC.2.1 _ hl.2.1 rfl args) (hC.2.1 _ hl.2.2.1 rfl args) (hC.2.1 _ hl.2.2.2 rfl args) hC.2.2.1 3 c0 v2 v3 v4 v6 c1 rfl h1 h2 h3 h4 h5 hfit (by unfold FRd at g1; omega) (by
    have : nativeFrameWords "java/lang/System" "arraycopy" 5 + 11 ≤ 400 := by decide +kernel
    simp only [List.map_nil, List.sum_nil]
    unfold LRd at g2
    omega) hd (fun H1 L9 hL9 e1 e2 e3 => ?_)
  refine (K p l e R s m args below meth c B Hb CS dC dI dA F ⟨g1, g2, g3, g4⟩ hB H1 (locs ++ L9) ls [] ?_ ?_ hL rfl)
  · refine hr.put ha1 e1 e2 rfl rfl (fun b hb => ?_) (fun e' he' => ?_)
    · exact c5 rfl (by funext q; simp [hI, cpI, hb]) rfl rfl rfl
    · rw [celA_4 (n := n1) (by exact hkd)] at he'
      cases he'
      show H1[B + d9]? = some (vp_cell _ _)
      rw [e3]
      refine congrArg (fun f => some (vp_cell (dA 4) (n1, Sum.inl f))) (funext fun q => ?_)
      simp [hI, cpI, va_cpy]
  · intro y hy
    rcases List.mem_append.mp hy with h | h
    · exact hlo y h
    · rw [hL9 y h]; show B ≤ B + d9; omega
end IN
