/-! what holds at a method's start, and the steps that move numbers on the stack alone -/
def pW (w : Jvm.Cond) : Bool := goodWord w || (match w with
  | .methodLinkNest _ _ _ _ => true
  | .castable _ _ => true
  | .declares _ => true
  | .arrayOver _ => true
  | _ => false)
def WD (s : State) : Prop := ∀ w ∈ lw_tb, pW w = true → ∀ args : Array Value, w.before args s = true
theorem WD.warm {s U : State} (hW : s.WarmedH U.vm) (h : WD s) : WD U := by
  intro w hw hp args
  have h0 := h w hw hp
  simp only [pW, Bool.or_eq_true] at hp
  rcases hp with hp | hp
  · exact word_at hW (good_of_word hp) (h0 args)
  · revert h0 hp
    cases w with
    | methodLinkNest a i x n => intro h0 _; exact va_Nw.use rfl (va_Nw.warmM hW (va_Nw.of rfl (h0 #[])))
    | castable C T => intro h0 _; exact va_Nw.use rfl (va_Nw.warmC hW (va_Nw.of rfl (h0 #[])))
    | declares y => intro h0 _; exact va_Nw.use rfl (va_Nw.warmD hW (va_Nw.of rfl (h0 #[])))
    | arrayOver ty => intro h0 _; exact (Jvm.Cond.arrayOver_setVmC (args := args) hW.alike ty).trans (h0 args)
    | _ => intro _ hp; exact absurd hp (by simp)
def skF (own : String) (B : Nat) (Hb : Heap) (CS : KT) (s : State) (i : Instr) (cst : Int32) (x : List Nat) : Prop := match i with
  | .iconst v => Int32.ofInt v = cst
  | .bipush v => (Int8.ofInt v).toInt32 = cst
  | .sipush v => (Int16.ofInt v).toInt32 = cst
  | .ldc ix => match x with
    | [] => ∀ args, (Jvm.Cond.constant own ix cst).before args s = true
    | k :: _ => ∃ tx, vk_R own ix tx (CS.1 k) s
  | .ldc_w ix => match x with
    | [] => ∀ args, (Jvm.Cond.constant own ix cst).before args s = true
    | k :: _ => ∃ tx, vk_R own ix tx (CS.1 k) s
  | .ldc2_w ix => match x with
    | [n] => ∀ args, (Jvm.Cond.constantLong own ix (Int64.ofNat n)).before args s = true
    | _ => ∀ args, (Jvm.Cond.constantLong own ix (Int64.ofInt cst.toInt)).before args s = true
  | .getstatic ix => match x with
    | [] => ∃ C n d, va_Z C n d (.int cst) (fun q => B ≤ q) s Hb ∧ ∀ args, (Jvm.Cond.fieldLink own ix C n d).before args s = true
    | k :: _ => ∃ C n d, va_Z C n d (.ref (CS.1 k)) (fun q => B ≤ q) s Hb ∧ ∀ args, (Jvm.Cond.fieldLink own ix C n d).before args s = true
  | _ => True
/-- how long a plain instruction is -/
def lenI : Instr → Nat
  | .bipush _ | .ldc _ | .iload _ | .aload _ | .lload _ | .dload _ | .fload _ | .istore _ | .astore _ | .lstore _ | .dstore _ | .fstore _ | .newarray _ => 2
  | .sipush _ | .ldc_w _ | .ldc2_w _ | .getstatic _ | .getfield _ | .putfield _ | .iinc _ _ | .goto _ | .ifCond _ _ | .if_icmp _ _ | .ifnonnull _ | .new _ | .anewarray _ | .invokevirtual _ | .invokestatic _ | .invokespecial _ => 3
  | .multianewarray _ _ => 4
  | _ => 1
theorem adr_big {B : Nat} {CS : KT} (k : Nat) : adr B CS (BIG + k) = CS.1 k := by
  unfold adr
  rw [if_neg (by omega), show BIG + k - BIG = k by omega]
section SK
variable {p : Program} {l : Launch} {e : Env} {R : Room} {s : State} {m : MethodId} {args : Array Value} {below : List Frame} {meth : Method} {c : Code} {H : Heap} {locs : List Loc} {cells slots : Nat} {Q : State → Prop}
variable {cc : ByteArray} {own : String} {B : Nat} {Hb : Heap} {CS : KT} {pc : Nat} {ls : Array Slot}
theorem w_ldcwS (hexec : p.tables.exec = Jvm.exec) (hb : c.code = cc) {own tx : String} {index q : Nat} (hown : s.vm.findClass own = some m.cls) (hZ : vk_R own index tx q s) (hdg : decode cc pc = .ok (.ldc_w index, 3)) {rest : List Value}
    (k : W p l e R s m args below meth c H locs cells slots Q (F0 m (pc + 3) ls (.ref q :: rest))) : W p l e R s m args below meth c H locs cells slots Q (F0 m pc ls rest) := by
  intro T hT X
  obtain ⟨t, a1, b1⟩ := k T hT X
  obtain ⟨k1, cf, i, a', hk, hcf, hcp, -, hr, hev'⟩ := Jvm.Cond.stringRef_spec hown hZ.1
  cases hZ.2.symm.trans hev'
  obtain ⟨k', hk', he⟩ := X.warmed.alike.2.2 _ _ hk
  have hr' : k'.resolved[index]? = some (some (.string q)) := by
    rcases X.warmed.entry hk hk' index with h | ⟨h, -⟩
    · rw [h]; exact hr
    · rw [hr] at h; cases h
  refine ⟨t, ?_, b1⟩
  jvm_step X.here [hexec, hb, hdg, Jvm.Op.ldc_w.wp_string (e := e) (s := T) (f := F0 m pc ls rest) X.here.top hk' (by rw [he]; exact hcf) hcp hr']
  exact a1
set_option maxHeartbeats 4000000 in
theorem sk_ok (hx : p.tables.exec = Jvm.exec) (hb : c.code = cc) (hown : s.vm.findClass own = some m.cls) (hHb : Hb.size = B) (hlow : ∀ q : Nat, q < B → H[q]? = Hb[q]?) {i : Instr} {cst : Int32} {x : List Nat} {st st' ms : List Value}
    (hd : decode cc pc = .ok (i, lenI i)) (hf : skF own B Hb CS s i cst x) (h : stkI i cst x st = some st') (hm : stR B CS st ms) :
    ∃ ms', stR B CS st' ms' ∧ (W p l e R s m args below meth c H locs cells slots Q (F0 m (pc + lenI i) ls ms') → W p l e R s m args below meth c H locs cells slots Q (F0 m pc ls ms)) := by
  cases i with
  | iconst v =>
    cases (Option.some.inj h)
    exact ⟨.int cst :: ms, ⟨_, _, rfl, rfl, hm⟩, fun k => lv_iconst hx hb hd hf k⟩
  | bipush v =>
    cases (Option.some.inj h)
    exact ⟨.int cst :: ms, ⟨_, _, rfl, rfl, hm⟩, fun k => lv_bipush hx hb hd hf k⟩
  | sipush v =>
    cases (Option.some.inj h)
    exact ⟨.int cst :: ms, ⟨_, _, rfl, rfl, hm⟩, fun k => lv_sipush hx hb hd hf k⟩
  | aconst_null =>
    cases (Option.some.inj h)
    exact ⟨.null :: ms, ⟨_, _, rfl, rfl, hm⟩, fun k => lv_null hx hb hd k⟩
  | lconst v =>
    match v, hd, h with
    | 0, hd, h =>
      cases (Option.some.inj h)
      exact ⟨.long 0 :: ms, ⟨_, _, rfl, rfl, hm⟩, fun k => lv_lconst hx hb hd rfl k⟩
    | 1, hd, h =>
      cases (Option.some.inj h)
      exact ⟨.long 1 :: ms, ⟨_, _, rfl, rfl, hm⟩, fun k => lv_lconst hx hb hd rfl k⟩
  | dconst v =>
    match v, hd, h with
    | 0, hd, h =>
      cases (Option.some.inj h)
      exact ⟨.double FP.dconst0 :: ms, ⟨_, _, rfl, rfl, hm⟩, fun k => lv_dconst0 hx hb hd k⟩
  | fconst v =>
    match v, hd, h with
    | 0, hd, h =>
      cases (Option.some.inj h)
      exact ⟨.float FP.fconst0 :: ms, ⟨_, _, rfl, rfl, hm⟩, fun k => lv_fconst0 hx hb hd k⟩
  | ldc ix =>
    match x, hf, h with
    | [], hf, h =>
      cases (Option.some.inj h)
      exact ⟨.int cst :: ms, ⟨_, _, rfl, rfl, hm⟩, fun k => lv_ldc hx hb hown (hf args) hd k⟩
    | k0 :: _, ⟨tx, hf⟩, h =>
      cases (Option.some.inj h)
      exact ⟨.ref (CS.1 k0) :: ms, ⟨_, _, rfl, (by show _ = Value.ref (adr B CS (BIG + k0)); rw [adr_big]), hm⟩, fun k => va_ldcS hx hb hown hf hd k⟩
  | ldc_w ix =>
    match x, hf, h with
    | [], hf, h =>
      cases (Option.some.inj h)
      exact ⟨.int cst :: ms, ⟨_, _, rfl, rfl, hm⟩, fun k => lv_ldcw hx hb hown (hf args) hd k⟩
    | k0 :: _, ⟨tx, hf⟩, h =>
      cases (Option.some.inj h)
      exact ⟨.ref (CS.1 k0) :: ms, ⟨_, _, rfl, (by show _ = Value.ref (adr B CS (BIG + k0)); rw [adr_big]), hm⟩, fun k => w_ldcwS hx hb hown hf hd k⟩
  | ldc2_w ix =>
    match x, hf, h with
    | [], hf, h =>
      cases (Option.some.inj h)
      exact ⟨_ :: ms, ⟨_, _, rfl, rfl, hm⟩, fun k => lv_ldc2 hx hb hown (hf args) hd k⟩
    | [n], hf, h =>
      cases (Option.some.inj h)
      exact ⟨_ :: ms, ⟨_, _, rfl, rfl, hm⟩, fun k => lv_ldc2 hx hb hown (hf args) hd k⟩
    | _ :: _ :: _, hf, h =>
      cases (Option.some.inj h)
      exact ⟨_ :: ms, ⟨_, _, rfl, rfl, hm⟩, fun k => lv_ldc2 hx hb hown (hf args) hd k⟩
  | getstatic ix =>
    match x, hf, h with
    | [], ⟨C, n, d, ⟨cf, kf, fi, f, a, ce0, h1, h2, h3, h4, h5, h6, h7, h8⟩, hl⟩, h =>
      cases (Option.some.inj h)
      have ha := (Array.getElem?_eq_some_iff.mp h5).1
      exact ⟨.int cst :: ms, ⟨_, _, rfl, rfl, hm⟩, fun k => W.gets hx hb hown (hl args) h1 h2 h3 h4 (by rw [hlow a (by omega)]; exact h5) (fun e => by rw [e] at h6; cases h6) h7 rfl hd k⟩
    | k0 :: _, ⟨C, n, d, ⟨cf, kf, fi, f, a, ce0, h1, h2, h3, h4, h5, h6, h7, h8⟩, hl⟩, h =>
      cases (Option.some.inj h)
      have ha := (Array.getElem?_eq_some_iff.mp h5).1
      exact ⟨.ref (CS.1 k0) :: ms, ⟨_, _, rfl, (by show _ = Value.ref (adr B CS (BIG + k0)); rw [adr_big]), hm⟩, fun k => W.gets hx hb hown (hl args) h1 h2 h3 h4 (by rw [hlow a (by omega)]; exact h5) (fun e => by rw [e] at h6; cases h6) h7 rfl hd k⟩
  | dup =>
    match st, h, hm with
    | v :: r, h, ⟨mv, r1, e1, h1, hr⟩ =>
      subst e1
      have hc := h1.cat
      revert h
      show (match v.category with | 1 => some (v :: v :: r) | _ => none) = some st' → _
      split
      · rename_i q
        intro h
        cases (Option.some.inj h)
        exact ⟨mv :: mv :: r1, ⟨_, _, rfl, h1, _, _, rfl, h1, hr⟩, fun k => lv_dup hx hb hd (hc.trans q) k⟩
      · intro h; cases h
  | pop =>
    match st, h, hm with
    | v :: r, h, ⟨mv, r1, e1, h1, hr⟩ =>
      subst e1
      have hc := h1.cat
      revert h
      show (match v.category with | 1 => some r | _ => none) = some st' → _
      split
      · rename_i q
        intro h
        cases (Option.some.inj h)
        exact ⟨r1, hr, fun k => lv_pop hx hb hd (hc.trans q) k⟩
      · intro h; cases h
  | dup_x1 =>
    match st, h, hm with
    | a :: b :: r, h, ⟨ma, r1, e1, h1, mb, r2, e2, h2, hr⟩ =>
      subst e1
      subst e2
      have hc := h1.cat
      have hc2 := h2.cat
      revert h
      show (match a.category, b.category with | 1, 1 => some (a :: b :: a :: r) | _, _ => none) = some st' → _
      split
      · rename_i q q2
        intro h
        cases (Option.some.inj h)
        exact ⟨ma :: mb :: ma :: r2, ⟨_, _, rfl, h1, _, _, rfl, h2, _, _, rfl, h1, hr⟩, fun k => lv_dup_x1 hx hb hd (hc.trans q) (hc2.trans q2) k⟩
      · intro h; cases h
  | dup2 =>
    match st, h, hm with
    | a :: b :: r, h, ⟨ma, r1, e1, h1, mb, r2, e2, h2, hr⟩ =>
      subst e1
      subst e2
      have hc := h1.cat
      have hc2 := h2.cat
      revert h
      show (match a.category, b.category with | 1, 1 => some (a :: b :: a :: b :: r) | _, _ => none) = some st' → _
      split
      · rename_i q q2
        intro h
        cases (Option.some.inj h)
        exact ⟨ma :: mb :: ma :: mb :: r2, ⟨_, _, rfl, h1, _, _, rfl, h2, _, _, rfl, h1, _, _, rfl, h2, hr⟩, fun k => lv_dup2_11 hx hb hd (hc.trans q) (hc2.trans q2) k⟩
      · intro h; cases h
  | iadd =>
    match st, h, hm with
    | .int y :: .int x :: r, h, ⟨my, r1, e1, h1, mx, r2, e2, h2, hr⟩ =>
      subst e1
      subst e2
      cases (show my = Value.int y from h1)
      cases (show mx = Value.int x from h2)
      cases (Option.some.inj h)
      exact ⟨_ :: r2, ⟨_, _, rfl, rfl, hr⟩, fun k => lv_iadd hx hb hd k⟩
  | isub =>
    match st, h, hm with
    | .int y :: .int x :: r, h, ⟨my, r1, e1, h1, mx, r2, e2, h2, hr⟩ =>
      subst e1
      subst e2
      cases (show my = Value.int y from h1)
      cases (show mx = Value.int x from h2)
      cases (Option.some.inj h)
      exact ⟨_ :: r2, ⟨_, _, rfl, rfl, hr⟩, fun k => lv_isub hx hb hd k⟩
  | imul =>
    match st, h, hm with
    | .int y :: .int x :: r, h, ⟨my, r1, e1, h1, mx, r2, e2, h2, hr⟩ =>
      subst e1
      subst e2
      cases (show my = Value.int y from h1)
      cases (show mx = Value.int x from h2)
      cases (Option.some.inj h)
      exact ⟨_ :: r2, ⟨_, _, rfl, rfl, hr⟩, fun k => lv_imul hx hb hd k⟩
  | iand =>
    match st, h, hm with
    | .int y :: .int x :: r, h, ⟨my, r1, e1, h1, mx, r2, e2, h2, hr⟩ =>
      subst e1
      subst e2
      cases (show my = Value.int y from h1)
      cases (show mx = Value.int x from h2)
      cases (Option.some.inj h)
      exact ⟨_ :: r2, ⟨_, _, rfl, rfl, hr⟩, fun k => lv_iand hx hb hd k⟩
  | ior =>
    match st, h, hm with
    | .int y :: .int x :: r, h, ⟨my, r1, e1, h1, mx, r2, e2, h2, hr⟩ =>
      subst e1
      subst e2
      cases (show my = Value.int y from h1)
      cases (show mx = Value.int x from h2)
      cases (Option.some.inj h)
      exact ⟨_ :: r2, ⟨_, _, rfl, rfl, hr⟩, fun k => lv_ior hx hb hd k⟩
  | ishl =>
    match st, h, hm with
    | .int y :: .int x :: r, h, ⟨my, r1, e1, h1, mx, r2, e2, h2, hr⟩ =>
      subst e1
      subst e2
      cases (show my = Value.int y from h1)
      cases (show mx = Value.int x from h2)
      cases (Option.some.inj h)
      exact ⟨_ :: r2, ⟨_, _, rfl, rfl, hr⟩, fun k => lv_ishl hx hb hd k⟩
  | ishr =>
    match st, h, hm with
    | .int y :: .int x :: r, h, ⟨my, r1, e1, h1, mx, r2, e2, h2, hr⟩ =>
      subst e1
      subst e2
      cases (show my = Value.int y from h1)
      cases (show mx = Value.int x from h2)
      cases (Option.some.inj h)
      exact ⟨_ :: r2, ⟨_, _, rfl, rfl, hr⟩, fun k => lv_ishr hx hb hd k⟩
  | iushr =>
    match st, h, hm with
    | .int y :: .int x :: r, h, ⟨my, r1, e1, h1, mx, r2, e2, h2, hr⟩ =>
      subst e1
      subst e2
      cases (show my = Value.int y from h1)
      cases (show mx = Value.int x from h2)
      cases (Option.some.inj h)
      exact ⟨_ :: r2, ⟨_, _, rfl, rfl, hr⟩, fun k => lv_iushr hx hb hd rfl k⟩
  | lshl =>
    match st, h, hm with
    | .int y :: .long x :: r, h, ⟨my, r1, e1, h1, mx, r2, e2, h2, hr⟩ =>
      subst e1
      subst e2
      cases (show my = Value.int y from h1)
      cases (show mx = Value.long x from h2)
      cases (Option.some.inj h)
      exact ⟨_ :: r2, ⟨_, _, rfl, rfl, hr⟩, fun k => lv_lshl hx hb hd rfl k⟩
  | lshr =>
    match st, h, hm with
    | .int y :: .long x :: r, h, ⟨my, r1, e1, h1, mx, r2, e2, h2, hr⟩ =>
      subst e1
      subst e2
      cases (show my = Value.int y from h1)
      cases (show mx = Value.long x from h2)
      cases (Option.some.inj h)
      exact ⟨_ :: r2, ⟨_, _, rfl, rfl, hr⟩, fun k => lv_lshr hx hb hd rfl k⟩
  | land =>
    match st, h, hm with
    | .long y :: .long x :: r, h, ⟨my, r1, e1, h1, mx, r2, e2, h2, hr⟩ =>
      subst e1
      subst e2
      cases (show my = Value.long y from h1)
      cases (show mx = Value.long x from h2)
      cases (Option.some.inj h)
      exact ⟨_ :: r2, ⟨_, _, rfl, rfl, hr⟩, fun k => lv_land hx hb hd k⟩
  | lor =>
    match st, h, hm with
    | .long y :: .long x :: r, h, ⟨my, r1, e1, h1, mx, r2, e2, h2, hr⟩ =>
      subst e1
      subst e2
      cases (show my = Value.long y from h1)
      cases (show mx = Value.long x from h2)
      cases (Option.some.inj h)
      exact ⟨_ :: r2, ⟨_, _, rfl, rfl, hr⟩, fun k => lv_lor hx hb hd k⟩
  | lsub =>
    match st, h, hm with
    | .long y :: .long x :: r, h, ⟨my, r1, e1, h1, mx, r2, e2, h2, hr⟩ =>
      subst e1
      subst e2
      cases (show my = Value.long y from h1)
      cases (show mx = Value.long x from h2)
      cases (Option.some.inj h)
      exact ⟨_ :: r2, ⟨_, _, rfl, rfl, hr⟩, fun k => lv_lsub hx hb hd k⟩
  | lcmp =>
    match st, h, hm with
    | .long y :: .long x :: r, h, ⟨my, r1, e1, h1, mx, r2, e2, h2, hr⟩ =>
      subst e1
      subst e2
      cases (show my = Value.long y from h1)
      cases (show mx = Value.long x from h2)
      cases (Option.some.inj h)
      exact ⟨_ :: r2, ⟨_, _, rfl, rfl, hr⟩, fun k => W.lcmp hx hb hd k⟩
  | ineg =>
    match st, h, hm with
    | .int x :: r, h, ⟨mx, r1, e1, h1, hr⟩ =>
      subst e1
      cases (show mx = Value.int x from h1)
      cases (Option.some.inj h)
      exact ⟨_ :: r1, ⟨_, _, rfl, rfl, hr⟩, fun k => lv_ineg hx hb hd k⟩
  | i2l =>
    match st, h, hm with
    | .int x :: r, h, ⟨mx, r1, e1, h1, hr⟩ =>
      subst e1
      cases (show mx = Value.int x from h1)
      cases (Option.some.inj h)
      exact ⟨_ :: r1, ⟨_, _, rfl, rfl, hr⟩, fun k => lv_i2l hx hb hd rfl k⟩
  | i2c =>
    match st, h, hm with
    | .int x :: r, h, ⟨mx, r1, e1, h1, hr⟩ =>
      subst e1
      cases (show mx = Value.int x from h1)
      cases (Option.some.inj h)
      exact ⟨_ :: r1, ⟨_, _, rfl, rfl, hr⟩, fun k => lv_i2c hx hb hd rfl k⟩
  | i2b =>
    match st, h, hm with
    | .int x :: r, h, ⟨mx, r1, e1, h1, hr⟩ =>
      subst e1
      cases (show mx = Value.int x from h1)
      cases (Option.some.inj h)
      exact ⟨_ :: r1, ⟨_, _, rfl, rfl, hr⟩, fun k => lv_i2b hx hb hd rfl k⟩
  | i2d =>
    match st, h, hm with
    | .int x :: r, h, ⟨mx, r1, e1, h1, hr⟩ =>
      subst e1
      cases (show mx = Value.int x from h1)
      cases (Option.some.inj h)
      exact ⟨_ :: r1, ⟨_, _, rfl, rfl, hr⟩, fun k => lv_i2d hx hb hd k⟩
  | i2f =>
    match st, h, hm with
    | .int x :: r, h, ⟨mx, r1, e1, h1, hr⟩ =>
      subst e1
      cases (show mx = Value.int x from h1)
      cases (Option.some.inj h)
      exact ⟨_ :: r1, ⟨_, _, rfl, rfl, hr⟩, fun k => lv_i2f hx hb hd k⟩
  | dcmp op =>
    match st, h, hm with
    | .double y :: .double x :: r, h, ⟨my, r1, e1, h1, mx, r2, e2, h2, hr⟩ =>
      subst e1
      subst e2
      cases (show my = Value.double y from h1)
      cases (show mx = Value.double x from h2)
      cases (Option.some.inj h)
      exact ⟨_ :: r2, ⟨_, _, rfl, rfl, hr⟩, fun k => lv_dcmp hx hb hd k⟩
  | fcmp op =>
    match st, h, hm with
    | .float y :: .float x :: r, h, ⟨my, r1, e1, h1, mx, r2, e2, h2, hr⟩ =>
      subst e1
      subst e2
      cases (show my = Value.float y from h1)
      cases (show mx = Value.float x from h2)
      cases (Option.some.inj h)
      exact ⟨_ :: r2, ⟨_, _, rfl, rfl, hr⟩, fun k => lv_fcmp hx hb hd k⟩
  | _ => cases (show (none : Option (List Value)) = some st' from h)
end SK
