/-! calls as steps -/
def okO : Out → Prop
  | .inl none => True
  | .inl (some v) => ∀ p, v ≠ .retAddr p
  | .inr E => E < 6
/-- where a run goes on behind a call -/
def cK (own : String) (cc : ByteArray) (nL : Nat) (rt : Option FieldType) (ini : Bool) (hh h4 : List (Nat × Nat × Nat × Nat)) (d n0 w0 : Nat) (o : Out) (A' : HP) (pc : Nat) (L : LV) (r : List Value) (A1 : HP) (o1 : Out) : Prop := match o1 with
  | .inl none => Inn own cc nL rt ini hh d n0 w0 o A' (pc + 3) L r A1
  | .inl (some v) => Inn own cc nL rt ini hh d n0 w0 o A' (pc + 3) L (v :: r) A1
  | .inr E => (∃ h, findH h4 pc E = some h ∧ Inn own cc nL rt ini hh d n0 w0 o A' h L [.retAddr 0] A1) ∨ (hh = [] ∧ o = .inr E ∧ A' = A1)
section CS
variable {own : String} {cc : ByteArray} {nL : Nat} {rt : Option FieldType} {ini : Bool} {hh h4 : List (Nat × Nat × Nat × Nat)} {d n0 w0 : Nat} {o o1 : Out} {A A' A1 : HP} {pc : Nat} {L : LV} {st r as : List Value}
theorem call_fin {p : Program} {l : Launch} {e : Env} {R : Room} {s : State} {m : MethodId} {args : Array Value} {below : List Frame} {meth : Method} {c : Code} {B : Nat} {Hb : Heap} {CS : KT} {dC : Nat → ClassId} {dI : Nat → Nat → Nat} {dA : Nat → ClassId}
    (F : Fr p l s m meth c own cc nL rt ini hh n0 B Hb CS dC dI dA) (hRm : Bd (d + 1) R (hn A' - n0) (hw A' - w0)) (hB : hn A' < BIG) {H : Heap} {locs : List Loc} {ls : Array Slot} {mr st0 : List Value} {a9 : Array Value}
    (hlo : ∀ z ∈ locs, B ≤ z.base) (hL : lR B CS L nL ls) (hst : stR B CS r mr) (hok : okO o1) (hhk : hhOK own hh h4) (h0 : n0 ≤ hn A) (h1 : w0 ≤ hw A) (hm1 : hn A ≤ hn A1) (hm2 : hw A ≤ hw A1) (hm3 : hn A1 ≤ hn A') (hm4 : hw A1 ≤ hw A')
    (hrun : vx_Run p l e R s m args below meth c H locs (hn A - n0) (hw A - w0) (hn A1 - hn A) (hw A1 - hw A) (F0 m pc ls st0) mr (QO B Hb CS dC dI dA o1 A1 a9) (XO B Hb CS dC dI dA o1 A1) (fun q => B ≤ q))
    (K : cK own cc nL rt ini hh h4 (d + 1) n0 w0 o A' pc L r A1 o1) :
    W p l e R s m args below meth c H locs (hn A - n0) (hw A - w0) (vx_MQ below (QO B Hb CS dC dI dA o A') (XO B Hb CS dC dI dA o A') args s (hn A' - n0) (hw A' - w0) (fun q => B ≤ q)) (F0 m pc ls st0) := by
  obtain ⟨hx, hb, hml, hlk, hown, hrt, hini, hT, hs0, hlw, hC⟩ := id F
  have e1 : hn A - n0 + (hn A1 - hn A) = hn A1 - n0 := by omega
  have e2 : hw A - w0 + (hw A1 - hw A) = hw A1 - w0 := by omega
  have hlo2 : ∀ L9 : List Loc, (∀ z ∈ L9, B ≤ z.base) → ∀ z ∈ locs ++ L9, B ≤ z.base := fun L9 h z hz => (List.mem_append.mp hz).elim (hlo z) (h z)
  refine w_call hrun (fun ho H1 L9 hL9 hr1 => ?_) (fun v ho H1 L9 hL9 hr1 => ?_) (fun E ho H1 L9 q ce hL9 hr1 hce hcv hcl => ?_)
  · subst ho
    rw [e1, e2]
    exact K p l e R s m args below meth c B Hb CS dC dI dA F hRm hB H1 (locs ++ L9) ls mr hr1 (hlo2 L9 hL9) hL hst
  · subst ho
    rw [e1, e2]
    exact K p l e R s m args below meth c B Hb CS dC dI dA F hRm hB H1 (locs ++ L9) ls (_ :: mr) hr1 (hlo2 L9 hL9) hL (stR.cons (vR.of v hok) hst)
  · subst ho
    rw [e1, e2]
    rcases K with ⟨h, hf, K⟩ | ⟨hh0, ho2, hA2⟩
    · exact w_catch hown hC hok hce hcv hcl (K p l e R s m args below meth c B Hb CS dC dI dA F hRm hB H1 (locs ++ L9) ls [.ref q] hr1 (hlo2 L9 hL9) hL ⟨_, _, rfl, ⟨q, rfl⟩, rfl⟩) c.exceptionTable.toList [] hh h4 rfl hT hhk hf (fun z hz => by cases hz)
    · subst hA2
      subst ho2
      refine vx_out (fun x hx9 => ?_) hlk hce hcv hcl (fun t ht hW => ⟨E, rfl, rfl, by rw [ht]; exact hr1⟩) (hlo2 L9 hL9) (Nat.le_refl _) (Nat.le_refl _)
      rw [hh0] at hT
      have : c.exceptionTable.toList = [] := List.map_eq_nil_iff.mp hT
      rw [this] at hx9
      cases hx9
/-- what a method's own row says -/
def mOK (q : MIT) : Prop := mword q ∈ lw_tb ∧ Jvm.Cond.initialized q.1.cls ∈ lw_tb ∧ (q.1.cls ≠ "java/lang/invoke/MethodHandle" ∧ q.1.cls ≠ "java/lang/invoke/VarHandle") ∧ plainName q.1.cls = true ∧ q.2.2.1 ≤ 40
theorem goodM {q : MIT} : pW (mword q) = true := by
  unfold mword
  split <;> rfl
theorem wsM {q : MIT} {s : State} (hC : WD s) (hm : mOK q) : ∀ w ∈ [mword q], ∀ (a' : Array Value) (U : State), s.WarmedH U.vm → w.before a' U = true := fun w hw a' U hW => by
  rw [List.mem_singleton.mp hw]
  exact hC.warm hW _ hm.1 goodM a'
set_option maxRecDepth 100000 in
theorem rm_ok {d mc ms : Nat} {R : Room} {q : MIT} (h : Bd (d + 1) R mc ms) (hm : mOK q) (a b : Nat) : (rmD d a b).frames + 1 ≤ R.frames ∧ 8 + (q.2.2.1 + 11) + (rmD d a b).locals ≤ R.locals := by
  obtain ⟨h1, h2, -, -⟩ := h
  obtain ⟨-, -, -, -, h3⟩ := hm
  unfold FRd at h1
  unfold LRd at h2
  constructor
  · show FRd d + 1 ≤ _
    unfold FRd; omega
  · have h5 : 8 + (q.2.2.1 + 11) + (64 * d + 800) ≤ 64 * (d + 1) + 800 := by omega
    exact Nat.le_trans h5 h2
theorem mword_code {q : MIT} (h : q.2.2.2.2.1 = []) : mword q = .code q.1 q.2.1 q.2.2.1 q.2.2.2.1 := by
  unfold mword
  rw [h]
theorem mword_with {q : MIT} (h : q.2.2.2.2.1 ≠ []) : mword q = .codeWith q.1 q.2.1 q.2.2.1 q.2.2.2.1 q.2.2.2.2.1 := by
  unfold mword
  split
  · rename_i h9; exact absurd h9 h
  · rfl
theorem in_callV {q : MIT} {ci ix b : Nat} {as' : List Value} {x : List Value} (hd : decode cc pc = .ok (.invokevirtual ix, 3)) (hm : mOK q) (hq0 : q.2.2.2.2.1 = []) (hci : ∃ C, wcl[ci]? = some C ∧ Jvm.Cond.selects C.1 q.1 q.1 ∈ lw_tb) (hl : Jvm.Cond.methodLink own ix q.1 ∈ lw_tb) (hin : Jvm.Cond.instanceMethod q.1 ∈ lw_tb) (hnp : (parseMethodDescriptor q.1.desc).map (fun d => d.parameters.length + 1) = some x.length)
    (hstx : st = x ++ r) (hasx : as = x.reverse) (hasb : as = .ref b :: as') (hkb : hK A b = (10 + ci, 0)) (hcat : catS r ≤ 8) (hj : noJ as = true) (hok : okO o1) (hhk : hhOK own hh h4) (h0 : n0 ≤ hn A) (h1 : w0 ≤ hw A) (hm1 : hn A ≤ hn A1) (hm2 : hw A ≤ hw A1) (hm3 : hn A1 ≤ hn A') (hm4 : hw A1 ≤ hw A')
    (hM : MetOK q d as A o1 A1) (K : cK own cc nL rt ini hh h4 (d + 1) n0 w0 o A' pc L r A1 o1) : Inn own cc nL rt ini hh (d + 1) n0 w0 o A' pc L st A := by
  intro p l e R s m args below meth c B Hb CS dC dI dA F hRm hB H locs ls ms hr hlo hL hst
  obtain ⟨hx, hb, hml, hlk, hown, hrt, hini, hT, hs0, hlw, hC⟩ := id F
  subst hstx
  have hjx : noJ x = true := by rw [← noJ_rev, ← hasx]; exact hj
  obtain ⟨mr, rfl, hst2⟩ := stR_split x r ms hjx hst
  have hxm : x.map (lvA B CS) = (as'.map (lvA B CS)).reverse ++ [.ref (adr B CS b)] := by
    have : x = as.reverse := by rw [hasx, List.reverse_reverse]
    rw [this, hasb]
    simp [lvA]
  obtain ⟨⟨C, T, N⟩, hc, hsel⟩ := hci
  have hrec : ∃ ce : Cell, H[adr B CS b]? = some ce ∧ ce.vm.isStatics = false ∧ s.vm.findClass C = some ce.cls := by
    by_cases h11 : ci = 11 ∧ BIG ≤ b
    · obtain ⟨h11, hbg⟩ := h11
      subst h11
      obtain ⟨k, e1, e2, e3, e4, e5⟩ := hr.kon hkb (Or.inr (Or.inr ⟨rfl, hbg⟩))
      obtain ⟨ce, c1, c2, c3, c4⟩ := ((hC.2.2.2.2.2.2.2.2.2.2.2 k 0).2.2 e3).1
      have hlt : CS.1 k < B := Nat.not_le.mp c4
      cases (Option.some.inj (hc.symm.trans (show wcl[11]? = some _ from rfl)))
      exact ⟨ce, by rw [e2, hr.2.2.2.1 _ hlt]; exact c1, c2, c3⟩
    · obtain ⟨r9, j1, ce, j2, j3, j4, j5⟩ := hr.at (celA_o hkb (by omega))
      have hr9 : r9 = (C, T, N) := Option.some.inj (j1.symm.trans hc)
      subst hr9
      exact ⟨ce, j2, by rw [j4]; rfl, by rw [j3]; exact (hC.2.2.1.1 ci _ hc).2.1⟩
  have hmw := mword_code hq0
  have hws := wsM hC.2.1 hm
  have hrm := rm_ok hRm hm (hn A1 - hn A) (hw A1 - hw A)
  have hlen : as'.length + 1 = x.length := by
    have h9 : as.length = x.length := by rw [hasx, List.length_reverse]
    rw [← h9, hasb, List.length_cons]
  refine call_fin F hRm hB hlo hL hst2 hok hhk h0 h1 hm1 hm2 hm3 hm4 (vx_runV (C := C) (As := as'.map (lvA B CS)) (b := adr B CS b) (n := as'.length) (Ts := []) (cc := cc) (nL := nL) (rm := rmD d (hn A1 - hn A) (hw A1 - hw A)) (ws := [mword q]) (bytes := q.2.1) (maxL := q.2.2.1) (ret := q.2.2.2.1) (own := own) ⟨hx, hb, hml, hown, fun w hw9 => by cases hw9⟩ (hM l B Hb CS dC dI dA (by omega))
    ⟨⟨rfl, rfl, hrm.1, hrm.2, hws, by rw [hmw]; exact List.mem_cons_self, by rw [← hmw]; exact hC.2.1 _ hm.1 goodM args, hC.2.1 _ hm.2.1 rfl args, hm.2.2.1, fun sig hsg => ?_, hC.2.1 _ hl rfl args⟩, hC.2.1 _ hin rfl args, hC.2.1 _ hsel rfl args⟩
    ⟨PcO.blind, hrec, PcO.of hr hC (by rw [hasb]; rfl)⟩ rfl (by rw [List.length_map]) (by obtain ⟨l9, h9, -⟩ := hL; exact h9.1) (by show _ = _; rw [hxm]; simp) (by show 2 * 0 + _ ≤ 8; rw [hst2.sum]; omega) hd ⟨by obtain ⟨-, -, g3, -⟩ := hRm; omega, by obtain ⟨-, -, -, g4⟩ := hRm; omega⟩) K
  rw [hsg] at hnp
  have := Option.some.inj hnp
  dsimp only at this
  omega
theorem in_callS {q : MIT} {ix : Nat} {x : List Value} (hd : decode cc pc = .ok (.invokestatic ix, 3)) (hm : mOK q) (hl : Jvm.Cond.methodLink own ix q.1 ∈ lw_tb) (hin : Jvm.Cond.static q.1 ∈ lw_tb) (hnp : (parseMethodDescriptor q.1.desc).map (fun d => d.parameters.length) = some x.length)
    (hstx : st = x ++ r) (hasx : as = x.reverse) (hcat : catS r ≤ 8) (hj : noJ as = true) (hok : okO o1) (hhk : hhOK own hh h4) (h0 : n0 ≤ hn A) (h1 : w0 ≤ hw A) (hm1 : hn A ≤ hn A1) (hm2 : hw A ≤ hw A1) (hm3 : hn A1 ≤ hn A') (hm4 : hw A1 ≤ hw A')
    (hM : MetOK q d as A o1 A1) (K : cK own cc nL rt ini hh h4 (d + 1) n0 w0 o A' pc L r A1 o1) : Inn own cc nL rt ini hh (d + 1) n0 w0 o A' pc L st A := by
  intro p l e R s m args below meth c B Hb CS dC dI dA F hRm hB H locs ls ms hr hlo hL hst
  obtain ⟨hx, hb, hml, hlk, hown, hrt, hini, hT, hs0, hlw, hC⟩ := id F
  subst hstx
  have hjx : noJ x = true := by rw [← noJ_rev, ← hasx]; exact hj
  obtain ⟨mr, rfl, hst2⟩ := stR_split x r ms hjx hst
  have hxm : x.map (lvA B CS) = (as.map (lvA B CS)).reverse := by rw [hasx]; simp
  have hws := wsM hC.2.1 hm
  have hrm := rm_ok hRm hm (hn A1 - hn A) (hw A1 - hw A)
  have hlen : as.length = x.length := by rw [hasx, List.length_reverse]
  have hpn : ∀ sig, parseMethodDescriptor q.1.desc = some sig → as.length = sig.parameters.length := fun sig hsg => by
    rw [hsg] at hnp
    have := Option.some.inj hnp
    dsimp only at this
    omega
  by_cases hq0 : q.2.2.2.2.1 = []
  · have hmw := mword_code hq0
    exact call_fin F hRm hB hlo hL hst2 hok hhk h0 h1 hm1 hm2 hm3 hm4 (vx_runS (As := as.map (lvA B CS)) (n := as.length) (Ts := []) (cc := cc) (nL := nL) (rm := rmD d (hn A1 - hn A) (hw A1 - hw A)) (ws := [mword q]) (bytes := q.2.1) (maxL := q.2.2.1) (ret := q.2.2.2.1) (own := own) ⟨hx, hb, hml, hown, fun w hw9 => by cases hw9⟩ (hM l B Hb CS dC dI dA (by omega))
      ⟨⟨rfl, rfl, hrm.1, hrm.2, hws, by rw [hmw]; exact List.mem_cons_self, by rw [← hmw]; exact hC.2.1 _ hm.1 goodM args, hC.2.1 _ hm.2.1 rfl args, hm.2.2.1, hpn, hC.2.1 _ hl rfl args⟩, hC.2.1 _ hin rfl args⟩
      ⟨PcO.blind, PcO.of hr hC rfl⟩ rfl (by rw [List.length_map]) (by obtain ⟨l9, h9, -⟩ := hL; exact h9.1) (by show _ = _; rw [hxm]) (by show 2 * 0 + _ ≤ 8; rw [hst2.sum]; omega) hd ⟨by obtain ⟨-, -, g3, -⟩ := hRm; omega, by obtain ⟨-, -, -, g4⟩ := hRm; omega⟩) K
  · have hmw := mword_with hq0
    exact call_fin F hRm hB hlo hL hst2 hok hhk h0 h1 hm1 hm2 hm3 hm4 (vx_runSX (hh := q.2.2.2.2.1) (As := as.map (lvA B CS)) (n := as.length) (Ts := []) (cc := cc) (nL := nL) (rm := rmD d (hn A1 - hn A) (hw A1 - hw A)) (ws := [mword q]) (bytes := q.2.1) (maxL := q.2.2.1) (ret := q.2.2.2.1) (own := own) ⟨hx, hb, hml, hown, fun w hw9 => by cases hw9⟩ (hM l B Hb CS dC dI dA (by omega))
      ⟨⟨rfl, rfl, hrm.1, hrm.2, hws, by rw [hmw]; exact List.mem_cons_self⟩, by rw [← hmw]; exact hC.2.1 _ hm.1 goodM args, hC.2.1 _ hm.2.1 rfl args, hm.2.2.1, hpn, hC.2.1 _ hl rfl args, hC.2.1 _ hin rfl args⟩
      ⟨PcO.blind, PcO.of hr hC rfl⟩ rfl (by rw [List.length_map]) (by obtain ⟨l9, h9, -⟩ := hL; exact h9.1) (by show _ = _; rw [hxm]) (by show 2 * 0 + _ ≤ 8; rw [hst2.sum]; omega) hd ⟨by obtain ⟨-, -, g3, -⟩ := hRm; omega, by obtain ⟨-, -, -, g4⟩ := hRm; omega⟩) K
end CS
