/-! calls of constructors and of a superclass's methods -/
section CS2
variable {own : String} {cc : ByteArray} {nL : Nat} {rt : Option FieldType} {ini : Bool} {hh h4 : List (Nat × Nat × Nat × Nat)} {d n0 w0 : Nat} {o o1 : Out} {A A' A1 : HP} {pc : Nat} {L : LV} {st r as : List Value}
theorem in_callI {q : MIT} {ix b : Nat} {as' : List Value} {x : List Value} (hd : decode cc pc = .ok (.invokespecial ix, 3)) (hm : mOK q) (hq0 : q.2.2.2.2.1 = []) (hq1 : q.2.2.2.1 = none) (hnm : q.1.name = "<init>") (hl : Jvm.Cond.methodLink own ix q.1 ∈ lw_tb) (hin : Jvm.Cond.instanceMethod q.1 ∈ lw_tb) (hnp : (parseMethodDescriptor q.1.desc).map (fun d => d.parameters.length + 1) = some x.length)
    (hstx : st = x ++ r) (hasx : as = x.reverse) (hasb : as = .ref b :: as') (hcat : catS r ≤ 8) (hj : noJ as = true) (hok : okO o1) (hhk : hhOK own hh h4) (h0 : n0 ≤ hn A) (h1 : w0 ≤ hw A) (hm1 : hn A ≤ hn A1) (hm2 : hw A ≤ hw A1) (hm3 : hn A1 ≤ hn A') (hm4 : hw A1 ≤ hw A')
    (hM : MetOK q d as A o1 A1) (K : cK own cc nL rt ini hh h4 (d + 1) n0 w0 o A' pc L r A1 o1) : Inn own cc nL rt ini hh (d + 1) n0 w0 o A' pc L st A := by
  intro p l e R s m args below meth c B Hb CS dC dI dA F hRm hB H locs ls ms hr hlo hL hst
  obtain ⟨hx, hb, hml, hlk, hown, hrt, hini, hT, hs0, hlw, hC⟩ := id F
  subst hstx
  have hjx : noJ x = true := by rw [← noJ_rev, ← hasx]; exact hj
  obtain ⟨mr, rfl, hst2⟩ := stR_split x r ms hjx hst
  have hxm : x.map (lvA B CS) = (as'.map (lvA B CS)).reverse ++ [.ref (adr B CS b)] := by
    have : x = as.reverse := by rw [hasx, List.reverse_reverse]
    rw [this, hasb]
    simp [lvA]
  have hmw := mword_code hq0
  have hws := wsM hC.2.1 hm
  have hrm := rm_ok hRm hm (hn A1 - hn A) (hw A1 - hw A)
  have hlen : as'.length + 1 = x.length := by
    have h9 : as.length = x.length := by rw [hasx, List.length_reverse]
    rw [← h9, hasb, List.length_cons]
  have hpn : ∀ sig, parseMethodDescriptor q.1.desc = some sig → as'.length = sig.parameters.length := fun sig hsg => by
    rw [hsg] at hnp
    have := Option.some.inj hnp
    dsimp only at this
    omega
  rw [hq1] at hmw
  exact call_fin F hRm hB hlo hL hst2 hok hhk h0 h1 hm1 hm2 hm3 hm4 (vx_runI (As := as'.map (lvA B CS)) (b := adr B CS b) (n := as'.length) (Ts := []) (cc := cc) (nL := nL) (rm := rmD d (hn A1 - hn A) (hw A1 - hw A)) (ws := [mword q]) (bytes := q.2.1) (maxL := q.2.2.1) (own := own) ⟨hx, hb, hml, hown, fun w hw9 => by cases hw9⟩ (hM l B Hb CS dC dI dA (by omega))
    ⟨⟨rfl, rfl, hrm.1, hrm.2, hws, by rw [hmw]; exact List.mem_cons_self, by rw [← hmw]; exact hC.2.1 _ hm.1 goodM args, hC.2.1 _ hm.2.1 rfl args, hm.2.2.1, hpn, hC.2.1 _ hl rfl args⟩, hnm, hC.2.1 _ hin rfl args⟩
    ⟨PcO.blind, PcO.of hr hC (by rw [hasb]; rfl)⟩ rfl (by rw [List.length_map]) (by obtain ⟨l9, h9, -⟩ := hL; exact h9.1) (by show _ = _; rw [hxm]; simp) (by show 2 * 0 + _ ≤ 8; rw [hst2.sum]; omega) hd ⟨by obtain ⟨-, -, g3, -⟩ := hRm; omega, by obtain ⟨-, -, -, g4⟩ := hRm; omega⟩) K
theorem in_callIN {q : MIT} {ix b : Nat} {host : String} {as' : List Value} {x : List Value} (hd : decode cc pc = .ok (.invokespecial ix, 3)) (hm : mOK q) (hq0 : q.2.2.2.2.1 = []) (hq1 : q.2.2.2.1 = none) (hnm : q.1.name = "<init>") (hl : Jvm.Cond.methodLinkNest own ix q.1 host ∈ lw_tb) (hin : Jvm.Cond.instanceMethod q.1 ∈ lw_tb) (hnp : (parseMethodDescriptor q.1.desc).map (fun d => d.parameters.length + 1) = some x.length)
    (hstx : st = x ++ r) (hasx : as = x.reverse) (hasb : as = .ref b :: as') (hcat : catS r ≤ 8) (hj : noJ as = true) (hok : okO o1) (hhk : hhOK own hh h4) (h0 : n0 ≤ hn A) (h1 : w0 ≤ hw A) (hm1 : hn A ≤ hn A1) (hm2 : hw A ≤ hw A1) (hm3 : hn A1 ≤ hn A') (hm4 : hw A1 ≤ hw A')
    (hM : MetOK q d as A o1 A1) (K : cK own cc nL rt ini hh h4 (d + 1) n0 w0 o A' pc L r A1 o1) : Inn own cc nL rt ini hh (d + 1) n0 w0 o A' pc L st A := by
  intro p l e R s m args below meth c B Hb CS dC dI dA F hRm hB H locs ls ms hr hlo hL hst
  obtain ⟨hx, hb, hml, hlk, hown, hrt, hini, hT, hs0, hlw, hC⟩ := id F
  subst hstx
  have hjx : noJ x = true := by rw [← noJ_rev, ← hasx]; exact hj
  obtain ⟨mr, rfl, hst2⟩ := stR_split x r ms hjx hst
  have hxm : x.map (lvA B CS) = (as'.map (lvA B CS)).reverse ++ [.ref (adr B CS b)] := by
    have : x = as.reverse := by rw [hasx, List.reverse_reverse]
    rw [this, hasb]
    simp [lvA]
  have hmw := mword_code hq0
  have hws := wsM hC.2.1 hm
  have hrm := rm_ok hRm hm (hn A1 - hn A) (hw A1 - hw A)
  have hlen : as'.length + 1 = x.length := by
    have h9 : as.length = x.length := by rw [hasx, List.length_reverse]
    rw [← h9, hasb, List.length_cons]
  have hpn : ∀ sig, parseMethodDescriptor q.1.desc = some sig → as'.length = sig.parameters.length := fun sig hsg => by
    rw [hsg] at hnp
    have := Option.some.inj hnp
    dsimp only at this
    omega
  rw [hq1] at hmw
  exact call_fin F hRm hB hlo hL hst2 hok hhk h0 h1 hm1 hm2 hm3 hm4 (vx_runIN (As := as'.map (lvA B CS)) (b := adr B CS b) (n := as'.length) (Ts := []) (cc := cc) (nL := nL) (rm := rmD d (hn A1 - hn A) (hw A1 - hw A)) (ws := [mword q]) (bytes := q.2.1) (maxL := q.2.2.1) (host := host) (own := own) ⟨hx, hb, hml, hown, fun w hw9 => by cases hw9⟩ (hM l B Hb CS dC dI dA (by omega))
    ⟨⟨⟨rfl, rfl, hrm.1, hrm.2, hws, by rw [hmw]; exact List.mem_cons_self⟩, by rw [← hmw]; exact hC.2.1 _ hm.1 goodM args, hC.2.1 _ hm.2.1 rfl args, hm.2.2.1, hpn, hC.2.1 _ hl rfl args⟩, hnm, hC.2.1 _ hin rfl args⟩
    ⟨PcO.blind, PcO.of hr hC (by rw [hasb]; rfl)⟩ rfl (by rw [List.length_map]) (by obtain ⟨l9, h9, -⟩ := hL; exact h9.1) (by show _ = _; rw [hxm]; simp) (by show 2 * 0 + _ ≤ 8; rw [hst2.sum]; omega) hd ⟨by obtain ⟨-, -, g3, -⟩ := hRm; omega, by obtain ⟨-, -, -, g4⟩ := hRm; omega⟩) K
theorem in_callSU {q : MIT} {ci ix b : Nat} {as' : List Value} {x : List Value} (hd : decode cc pc = .ok (.invokespecial ix, 3)) (hm : mOK q) (hq0 : q.2.2.2.2.1 = []) (hnm : q.1.name ≠ "<init>") (hl : Jvm.Cond.methodLink own ix q.1 ∈ lw_tb) (hin : Jvm.Cond.instanceMethod q.1 ∈ lw_tb) (hsm : Jvm.Cond.sameMethod q.1.cls q.1.cls q.1.name q.1.desc ∈ lw_tb) (hsup : Jvm.Cond.superclass own q.1.cls ∈ lw_tb) (hci : ∃ C, wcl[ci]? = some C) (h11 : ci ≠ 11) (hnp : (parseMethodDescriptor q.1.desc).map (fun d => d.parameters.length + 1) = some x.length)
    (hstx : st = x ++ r) (hasx : as = x.reverse) (hasb : as = .ref b :: as') (hkb : hK A b = (10 + ci, 0)) (hcat : catS r ≤ 8) (hj : noJ as = true) (hok : okO o1) (hhk : hhOK own hh h4) (h0 : n0 ≤ hn A) (h1 : w0 ≤ hw A) (hm1 : hn A ≤ hn A1) (hm2 : hw A ≤ hw A1) (hm3 : hn A1 ≤ hn A') (hm4 : hw A1 ≤ hw A')
    (hM : MetOK q d as A o1 A1) (K : cK own cc nL rt ini hh h4 (d + 1) n0 w0 o A' pc L r A1 o1) : Inn own cc nL rt ini hh (d + 1) n0 w0 o A' pc L st A := by
  intro p l e R s m args below meth c B Hb CS dC dI dA F hRm hB H locs ls ms hr hlo hL hst
  obtain ⟨hx, hb, hml, hlk, hown, hrt, hini, hT, hs0, hlw, hC⟩ := id F
  subst hstx
  have hjx : noJ x = true := by rw [← noJ_rev, ← hasx]; exact hj
  obtain ⟨mr, rfl, hst2⟩ := stR_split x r ms hjx hst
  have hxm : x.map (lvA B CS) = (as'.map (lvA B CS)).reverse ++ [.ref (adr B CS b)] := by
    have : x = as.reverse := by rw [hasx, List.reverse_reverse]
    rw [this, hasb]
    simp [lvA]
  have hmw := mword_code hq0
  have hws := wsM hC.2.1 hm
  have hrm := rm_ok hRm hm (hn A1 - hn A) (hw A1 - hw A)
  have hlen : as'.length + 1 = x.length := by
    have h9 : as.length = x.length := by rw [hasx, List.length_reverse]
    rw [← h9, hasb, List.length_cons]
  have hpn : ∀ sig, parseMethodDescriptor q.1.desc = some sig → as'.length = sig.parameters.length := fun sig hsg => by
    rw [hsg] at hnp
    have := Option.some.inj hnp
    dsimp only at this
    omega
  obtain ⟨⟨C, T, N⟩, hc⟩ := hci
  obtain ⟨r9, j1, ce, j2, j3, j4, j5⟩ := hr.at (celA_o hkb (Or.inl h11))
  have hr9 : r9 = (C, T, N) := Option.some.inj (j1.symm.trans hc)
  subst hr9
  have hcl := (hC.2.2.1.1 ci _ hc).2
  exact call_fin F hRm hB hlo hL hst2 hok hhk h0 h1 hm1 hm2 hm3 hm4 (vx_runSU (C := C) hcl (As := as'.map (lvA B CS)) (b := adr B CS b) (n := as'.length) (Ts := []) (cc := cc) (nL := nL) (rm := rmD d (hn A1 - hn A) (hw A1 - hw A)) (ws := [mword q]) (bytes := q.2.1) (maxL := q.2.2.1) (ret := q.2.2.2.1) (own := own) ⟨hx, hb, hml, hown, fun w hw9 => by cases hw9⟩ (hM l B Hb CS dC dI dA (by omega))
    ⟨⟨rfl, rfl, hrm.1, hrm.2, hws, by rw [hmw]; exact List.mem_cons_self⟩, hC.2.1 _ hl rfl args, hC.2.1 _ hsm rfl args, hC.2.1 _ hsup rfl args, hC.2.1 _ hin rfl args, hC.2.1 _ hm.2.1 rfl args, by rw [← hmw]; exact hC.2.1 _ hm.1 goodM args, hnm, hpn⟩
    ⟨PcO.blind, ⟨ce, j2, by rw [j4]; rfl, by rw [j3]; exact hcl.1⟩, PcO.of hr hC (by rw [hasb]; rfl)⟩ rfl (by rw [List.length_map]) (by obtain ⟨l9, h9, -⟩ := hL; exact h9.1) (by show _ = _; rw [hxm]; simp) (by show 2 * 0 + _ ≤ 8; rw [hst2.sum]; omega) hd ⟨by obtain ⟨-, -, g3, -⟩ := hRm; omega, by obtain ⟨-, -, -, g4⟩ := hRm; omega⟩) K
/-- a call of a method that another one overrides -/
theorem in_callVU {q qx : MIT} {ci ix b : Nat} {as' : List Value} {x : List Value} (hd : decode cc pc = .ok (.invokevirtual ix, 3)) (hm : mOK q) (hmx : mOK qx) (hq0 : q.2.2.2.2.1 = []) (hqx0 : qx.2.2.2.2.1 = []) (hci : ∃ C, wcl[ci]? = some C ∧ Jvm.Cond.selects C.1 qx.1 q.1 ∈ lw_tb) (h11 : ci ≠ 11) (hl : Jvm.Cond.methodLink own ix qx.1 ∈ lw_tb) (hsm : Jvm.Cond.sameMethod qx.1.cls qx.1.cls qx.1.name qx.1.desc ∈ lw_tb) (hin : Jvm.Cond.instanceMethod q.1 ∈ lw_tb) (hinx : Jvm.Cond.instanceMethod qx.1 ∈ lw_tb) (hnp : (parseMethodDescriptor qx.1.desc).map (fun d => d.parameters.length + 1) = some x.length)
    (hstx : st = x ++ r) (hasx : as = x.reverse) (hasb : as = .ref b :: as') (hkb : hK A b = (10 + ci, 0)) (hcat : catS r ≤ 8) (hj : noJ as = true) (hok : okO o1) (hhk : hhOK own hh h4) (h0 : n0 ≤ hn A) (h1 : w0 ≤ hw A) (hm1 : hn A ≤ hn A1) (hm2 : hw A ≤ hw A1) (hm3 : hn A1 ≤ hn A') (hm4 : hw A1 ≤ hw A')
    (hM : MetOK q d as A o1 A1) (K : cK own cc nL rt ini hh h4 (d + 1) n0 w0 o A' pc L r A1 o1) : Inn own cc nL rt ini hh (d + 1) n0 w0 o A' pc L st A := by
  intro p l e R s m args below meth c B Hb CS dC dI dA F hRm hB H locs ls ms hr hlo hL hst
  obtain ⟨hx, hb, hml, hlk, hown, hrt, hini, hT, hs0, hlw, hC⟩ := id F
  subst hstx
  have hjx : noJ x = true := by rw [← noJ_rev, ← hasx]; exact hj
  obtain ⟨mr, rfl, hst2⟩ := stR_split x r ms hjx hst
  have hxm : x.map (lvA B CS) = (as'.map (lvA B CS)).reverse ++ [.ref (adr B CS b)] := by
    have : x = as.reverse := by rw [hasx, List.reverse_reverse]
    rw [this, hasb]
    simp [lvA]
  obtain ⟨⟨C, T, N⟩, hc, hsel⟩ := hci
  have hrec : ∃ ce : Cell, H[adr B CS b]? = some ce ∧ ce.vm.isStatics = false ∧ s.vm.findClass C = some ce.cls := by
    obtain ⟨r9, j1, ce, j2, j3, j4, j5⟩ := hr.at (celA_o hkb (Or.inl h11))
    have hr9 : r9 = (C, T, N) := Option.some.inj (j1.symm.trans hc)
    subst hr9
    exact ⟨ce, j2, by rw [j4]; rfl, by rw [j3]; exact (hC.2.2.1.1 ci _ hc).2.1⟩
  have hmw := mword_code hq0
  have hmwx := mword_code hqx0
  have hws := wsM hC.2.1 hm
  have hrm := rm_ok hRm hm (hn A1 - hn A) (hw A1 - hw A)
  have hlen : as'.length + 1 = x.length := by
    have h9 : as.length = x.length := by rw [hasx, List.length_reverse]
    rw [← h9, hasb, List.length_cons]
  have hpn : ∀ sig, parseMethodDescriptor qx.1.desc = some sig → as'.length = sig.parameters.length := fun sig hsg => by
    rw [hsg] at hnp
    have := Option.some.inj hnp
    dsimp only at this
    omega
  exact call_fin F hRm hB hlo hL hst2 hok hhk h0 h1 hm1 hm2 hm3 hm4 (vx_runU (x := qx.1) (y := q.1) (C := C) (owner := qx.1.cls) (As := as'.map (lvA B CS)) (b := adr B CS b) (n := as'.length) (Ts := []) (cc := cc) (nL := nL) (rm := rmD d (hn A1 - hn A) (hw A1 - hw A)) (ws := [mword q]) (bytes := q.2.1) (maxL := q.2.2.1) (ret := q.2.2.2.1) (own := own) ⟨hx, hb, hml, hown, fun w hw9 => by cases hw9⟩ (hM l B Hb CS dC dI dA (by omega))
    ⟨⟨rfl, rfl, hrm.1, hrm.2, hws, by rw [hmw]; exact List.mem_cons_self⟩, by rw [← hmw]; exact hC.2.1 _ hm.1 goodM args, hC.2.1 _ hm.2.1 rfl args, hmx.2.2.1, hpn, hC.2.1 _ hl rfl args, hC.2.1 _ hsm rfl args, va_Decl.of (hC.2.1 _ hinx rfl args) (by have h9 := hC.2.1 _ hmx.1 goodM args; rw [hmwx] at h9; exact h9), hC.2.1 _ hsel rfl args, hC.2.1 _ hin rfl args⟩
    ⟨PcO.blind, hrec, PcO.of hr hC (by rw [hasb]; rfl)⟩ rfl (by rw [List.length_map]) (by obtain ⟨l9, h9, -⟩ := hL; exact h9.1) (by show _ = _; rw [hxm]; simp) (by show 2 * 0 + _ ≤ 8; rw [hst2.sum]; omega) hd ⟨by obtain ⟨-, -, g3, -⟩ := hRm; omega, by obtain ⟨-, -, -, g4⟩ := hRm; omega⟩) K
end CS2
