/-! new cells, ends -/
theorem wcl_def : ∀ ci, ci < 12 → ∀ q, wcl[ci]? = some q → ∀ k, k < q.2.2 → defaultValue (ffty ci k) = (match (ftag ci).getD k 0 with
    | 1 => Value.long 0
    | 2 => Value.null
    | _ => Value.int 0) := by
  have h : (List.range 12).all (fun ci => match wcl[ci]? with
    | some q => (List.range q.2.2).all (fun k => decide (defaultValue (ffty ci k) = (match (ftag ci).getD k 0 with
      | 1 => Value.long 0
      | 2 => Value.null
      | _ => Value.int 0)))
    | none => true) = true := by decide +kernel
  intro ci hci q hq k hk
  have h1 := List.all_eq_true.mp h ci (List.mem_range.mpr hci)
  rw [hq] at h1
  simp only [List.all_eq_true, List.mem_range, decide_eq_true_eq] at h1
  exact h1 k hk
/-- a class that is made: its link, its size -/
def nOK (own : String) (ix ci w : Nat) : Prop := ∃ q : vw_C, wcl[ci]? = some q ∧ w = q.2.2 ∧ Jvm.Cond.classLink own ix q.1 ∈ lw_tb ∧ Jvm.Cond.instantiable q.1 q.2.2 ∈ lw_tb ∧ Jvm.Cond.initialized q.1 ∈ lw_tb
def tyN (t : Nat) : FieldType := match t with
  | 1 => .int
  | 3 => .char
  | 4 => .byte
  | _ => .int
theorem ac_ok : ∀ t, t < 6 → Jvm.Cond.arrayClass (tyN t) ∈ lw_tb := by
  have h : (List.range 6).all (fun t => decide (Jvm.Cond.arrayClass (tyN t) ∈ lw_tb)) = true := by decide +kernel
  intro t ht
  have h1 := List.all_eq_true.mp h t (List.mem_range.mpr ht)
  simpa using h1
section IN
variable {own : String} {cc : ByteArray} {nL : Nat} {rt : Option FieldType} {ini : Bool} {hh : List (Nat × Nat × Nat × Nat)} {d n0 w0 : Nat} {o : Out} {A A' : HP} {pc : Nat} {L : LV} {st : List Value}
theorem in_new {ci w ix : Nat} (hd : decode cc pc = .ok (.new ix, 3)) (hf : nOK own ix ci w) (hci : ci < 12) (h0 : n0 ≤ hn A) (h1 : w0 ≤ hw A) (h2 : hn A + 1 ≤ hn A') (h3 : hw A + w ≤ hw A') (K : Inn own cc nL rt ini hh d n0 w0 o A' (pc + 3) L (.ref (hn A) :: st) (mk A (10 + ci, 0) w)) : Inn own cc nL rt ini hh d n0 w0 o A' pc L st A := by
  intro p l e R s m args below meth c B Hb CS dC dI dA F hRm hB H locs ls ms hr hlo hL hst
  obtain ⟨hx, hb, hml, hlk, hown, hrt, hini, hT, hs0, hlw, hC⟩ := id F
  obtain ⟨⟨C, T, N⟩, hc, hw1, hl, hi1, hi2⟩ := hf
  have hq := List.mem_of_getElem? hc
  obtain ⟨htl, hty, hnm⟩ := wcl_ty ci (by omega) _ hc
  obtain ⟨g1, g2, g3, g4⟩ := hRm
  have hKn := hC.2.2.1.1 ci _ hc
  refine W.newcK (n := N) hx hb hown (hC.2.1 _ hl rfl args) (hC.2.1 _ hi1 rfl args) (hC.2.1 _ hi2 rfl args) rfl hd (by omega) (by dsimp only at hw1; omega) hKn.2.1 hr.size (fun H1 kC hkC e1 z1 o1 => ?_)
  have ec : hn A - n0 + 1 = hn (mk A (10 + ci, 0) w) - n0 := by show _ = hn A + 1 - n0; omega
  have es : hw A - w0 + N = hw (mk A (10 + ci, 0) w) - w0 := by show _ = hw A + w - w0; dsimp only at hw1; omega
  rw [ec, es]
  refine (K p l e R s m args below meth c B Hb CS dC dI dA F ⟨g1, g2, g3, g4⟩ hB H1 locs ls (_ :: ms) ?_ hlo hL (stR.cons (show vR B CS (.ref (hn A)) (.ref (B + hn A)) from ?_) hst))
  · refine hr.push (by rw [z1, hr.size]) (fun q hq => o1 q (by rw [hr.size] at hq; exact hq)) (by omega) rfl ⟨by show (if hn A = hn A then (10 + ci, 0) else _).1 ≠ 8; rw [if_pos rfl]; show 10 + ci ≠ 8; omega, by show (if hn A = hn A then (10 + ci, 0) else _).1 ≠ 9; rw [if_pos rfl]; show 10 + ci ≠ 9; omega⟩ (fun b hb => ?_) (fun e' he' => ?_)
    · exact c5 (by simp [hK, mk, hb]) (by funext j; simp [hI, mk, hb]) (by funext j; simp [hJ, mk, hb]) (by funext j; simp [hR, mk, hb]) (by funext j; simp [hU, mk, hb])
    · rw [celA_o (ci := ci) (by simp [hK, mk]) (Or.inr hr.2.2.1)] at he'
      cases he'
      refine ⟨_, hc, (u_born (ffty ci) (fun w hw => hC.2.1 w (wcl_ws _ hq w hw).1 (wcl_ws _ hq w hw).2 args) (fun _ h => h) hKn hkC e1 hty).to (fun k hk => ?_)⟩
      rw [wcl_def ci (by omega) _ hc k hk]
      have e9 : (objL B CS (mk A (10 + ci, 0) w) (hn A) (ftag ci)).getD k Value.null = fvl B CS (mk A (10 + ci, 0) w) (hn A) k ((ftag ci).getD k 0) := by
        rw [List.getD_eq_getElem?_getD, objL_get (by rw [htl]; exact hk)]
        rfl
      show _ = (objL B CS (mk A (10 + ci, 0) w) (hn A) (ftag ci)).getD k Value.null
      rw [e9]
      generalize (ftag ci).getD k 0 = t9
      rcases t9 with _ | _ | _ | t9 <;> simp [fvl, hI, hJ, hR, mk, va_rf]
  · show Value.ref (B + hn A) = .ref (adr B CS (hn A))
    unfold adr
    rw [if_pos hr.2.2.1]
theorem in_newa1 {v : Int32} (hd : decode cc pc = .ok (.newarray .int, 2)) (hv : ¬ v < 0) (hv2 : v.toNatClampNeg ≤ 65536) (h0 : n0 ≤ hn A) (h1 : w0 ≤ hw A) (h2 : hn A + 1 ≤ hn A') (h3 : hw A + v.toNatClampNeg ≤ hw A') (K : Inn own cc nL rt ini hh d n0 w0 o A' (pc + 2) L (.ref (hn A) :: st) (mk A (1, v.toNatClampNeg) v.toNatClampNeg)) : Inn own cc nL rt ini hh d n0 w0 o A' pc L (.int v :: st) A := by
  intro p l e R s m args below meth c B Hb CS dC dI dA F hRm hB H locs ls ms hr hlo hL hst
  obtain ⟨hx, hb, hml, hlk, hown, hrt, hini, hT, hs0, hlw, hC⟩ := id F
  obtain ⟨mv, r, rfl, hv1, hst⟩ := hst
  cases (show mv = Value.int v from hv1)
  obtain ⟨g1, g2, g3, g4⟩ := hRm
  have hac : Jvm.Cond.arrayClass (newarray.typeOf .int) ∈ lw_tb := ac_ok 1 (by omega)
  refine va_newaK hx hb (hC.2.1 _ hac rfl args) rfl hd rfl hv rfl (by have : componentBytes (newarray.typeOf .int) ≤ 8 := (by decide); exact Nat.le_trans (Nat.mul_le_mul hv2 this) (by decide)) (by omega) (by omega) hr.size (fun H1 cA e1 z1 o1 hAr hNm => ?_)
  have hcA : cA = dA 1 := Option.some.inj (hNm.symm.trans (hC.2.2.1.2 0 _ rfl).2)
  subst hcA
  have ec : hn A - n0 + 1 = hn (mk A (1, v.toNatClampNeg) v.toNatClampNeg) - n0 := by show _ = hn A + 1 - n0; omega
  have es : hw A - w0 + v.toNatClampNeg = hw (mk A (1, v.toNatClampNeg) v.toNatClampNeg) - w0 := by show _ = hw A + v.toNatClampNeg - w0; omega
  rw [ec, es]
  refine (K p l e R s m args below meth c B Hb CS dC dI dA F ⟨g1, g2, g3, g4⟩ hB H1 locs ls (_ :: r) ?_ hlo hL (stR.cons (show vR B CS (.ref (hn A)) (.ref (B + hn A)) from ?_) hst))
  · refine hr.push (by rw [z1, hr.size]) (fun q hq => o1 q (by rw [hr.size] at hq; exact hq)) (by omega) rfl (by simp [hK, mk]) (fun b hb => ?_) (fun e' he' => ?_)
    · exact c5 (by simp [hK, mk, hb]) (by funext j; simp [hI, mk, hb]) (by funext j; simp [hJ, mk, hb]) (by funext j; simp [hR, mk, hb]) (by funext j; simp [hU, mk, hb])
    · rw [celA_1 (n := v.toNatClampNeg) (by simp [hK, mk])] at he'
      cases he'
      show H1[B + hn A]? = some (vp_cell _ _)
      rw [e1, vp_cell_i]
      refine congrArg some (congrArg (arrV (dA 1) v.toNatClampNeg) (funext fun j => ?_))
      simp [hI, mk, newarray.typeOf, defaultValue]
  · show Value.ref (B + hn A) = .ref (adr B CS (hn A))
    unfold adr
    rw [if_pos hr.2.2.1]
theorem in_newa3 {v : Int32} (hd : decode cc pc = .ok (.newarray .char, 2)) (hv : ¬ v < 0) (hv2 : v.toNatClampNeg ≤ 65536) (h0 : n0 ≤ hn A) (h1 : w0 ≤ hw A) (h2 : hn A + 1 ≤ hn A') (h3 : hw A + v.toNatClampNeg ≤ hw A') (K : Inn own cc nL rt ini hh d n0 w0 o A' (pc + 2) L (.ref (hn A) :: st) (mk A (3, v.toNatClampNeg) v.toNatClampNeg)) : Inn own cc nL rt ini hh d n0 w0 o A' pc L (.int v :: st) A := by
  intro p l e R s m args below meth c B Hb CS dC dI dA F hRm hB H locs ls ms hr hlo hL hst
  obtain ⟨hx, hb, hml, hlk, hown, hrt, hini, hT, hs0, hlw, hC⟩ := id F
  obtain ⟨mv, r, rfl, hv1, hst⟩ := hst
  cases (show mv = Value.int v from hv1)
  obtain ⟨g1, g2, g3, g4⟩ := hRm
  have hac : Jvm.Cond.arrayClass (newarray.typeOf .char) ∈ lw_tb := ac_ok 3 (by omega)
  refine va_newaK hx hb (hC.2.1 _ hac rfl args) rfl hd rfl hv rfl (by have : componentBytes (newarray.typeOf .char) ≤ 8 := (by decide); exact Nat.le_trans (Nat.mul_le_mul hv2 this) (by decide)) (by omega) (by omega) hr.size (fun H1 cA e1 z1 o1 hAr hNm => ?_)
  have hcA : cA = dA 3 := Option.some.inj (hNm.symm.trans (hC.2.2.1.2 2 _ rfl).2)
  subst hcA
  have ec : hn A - n0 + 1 = hn (mk A (3, v.toNatClampNeg) v.toNatClampNeg) - n0 := by show _ = hn A + 1 - n0; omega
  have es : hw A - w0 + v.toNatClampNeg = hw (mk A (3, v.toNatClampNeg) v.toNatClampNeg) - w0 := by show _ = hw A + v.toNatClampNeg - w0; omega
  rw [ec, es]
  refine (K p l e R s m args below meth c B Hb CS dC dI dA F ⟨g1, g2, g3, g4⟩ hB H1 locs ls (_ :: r) ?_ hlo hL (stR.cons (show vR B CS (.ref (hn A)) (.ref (B + hn A)) from ?_) hst))
  · refine hr.push (by rw [z1, hr.size]) (fun q hq => o1 q (by rw [hr.size] at hq; exact hq)) (by omega) rfl (by simp [hK, mk]) (fun b hb => ?_) (fun e' he' => ?_)
    · exact c5 (by simp [hK, mk, hb]) (by funext j; simp [hI, mk, hb]) (by funext j; simp [hJ, mk, hb]) (by funext j; simp [hR, mk, hb]) (by funext j; simp [hU, mk, hb])
    · rw [celA_3 (n := v.toNatClampNeg) (by simp [hK, mk])] at he'
      cases he'
      show H1[B + hn A]? = some (vp_cell _ _)
      rw [e1, vp_cell_i]
      refine congrArg some (congrArg (arrV (dA 3) v.toNatClampNeg) (funext fun j => ?_))
      simp [hI, mk, newarray.typeOf, defaultValue]
  · show Value.ref (B + hn A) = .ref (adr B CS (hn A))
    unfold adr
    rw [if_pos hr.2.2.1]
theorem in_newa4 {v : Int32} (hd : decode cc pc = .ok (.newarray .byte, 2)) (hv : ¬ v < 0) (hv2 : v.toNatClampNeg ≤ 65536) (h0 : n0 ≤ hn A) (h1 : w0 ≤ hw A) (h2 : hn A + 1 ≤ hn A') (h3 : hw A + v.toNatClampNeg ≤ hw A') (K : Inn own cc nL rt ini hh d n0 w0 o A' (pc + 2) L (.ref (hn A) :: st) (mk A (4, v.toNatClampNeg) v.toNatClampNeg)) : Inn own cc nL rt ini hh d n0 w0 o A' pc L (.int v :: st) A := by
  intro p l e R s m args below meth c B Hb CS dC dI dA F hRm hB H locs ls ms hr hlo hL hst
  obtain ⟨hx, hb, hml, hlk, hown, hrt, hini, hT, hs0, hlw, hC⟩ := id F
  obtain ⟨mv, r, rfl, hv1, hst⟩ := hst
  cases (show mv = Value.int v from hv1)
  obtain ⟨g1, g2, g3, g4⟩ := hRm
  have hac : Jvm.Cond.arrayClass (newarray.typeOf .byte) ∈ lw_tb := ac_ok 4 (by omega)
  refine va_newaK hx hb (hC.2.1 _ hac rfl args) rfl hd rfl hv rfl (by have : componentBytes (newarray.typeOf .byte) ≤ 8 := (by decide); exact Nat.le_trans (Nat.mul_le_mul hv2 this) (by decide)) (by omega) (by omega) hr.size (fun H1 cA e1 z1 o1 hAr hNm => ?_)
  have hcA : cA = dA 4 := Option.some.inj (hNm.symm.trans (hC.2.2.1.2 3 _ rfl).2)
  subst hcA
  have ec : hn A - n0 + 1 = hn (mk A (4, v.toNatClampNeg) v.toNatClampNeg) - n0 := by show _ = hn A + 1 - n0; omega
  have es : hw A - w0 + v.toNatClampNeg = hw (mk A (4, v.toNatClampNeg) v.toNatClampNeg) - w0 := by show _ = hw A + v.toNatClampNeg - w0; omega
  rw [ec, es]
  refine (K p l e R s m args below meth c B Hb CS dC dI dA F ⟨g1, g2, g3, g4⟩ hB H1 locs ls (_ :: r) ?_ hlo hL (stR.cons (show vR B CS (.ref (hn A)) (.ref (B + hn A)) from ?_) hst))
  · refine hr.push (by rw [z1, hr.size]) (fun q hq => o1 q (by rw [hr.size] at hq; exact hq)) (by omega) rfl (by simp [hK, mk]) (fun b hb => ?_) (fun e' he' => ?_)
    · exact c5 (by simp [hK, mk, hb]) (by funext j; simp [hI, mk, hb]) (by funext j; simp [hJ, mk, hb]) (by funext j; simp [hR, mk, hb]) (by funext j; simp [hU, mk, hb])
    · rw [celA_4 (n := v.toNatClampNeg) (by simp [hK, mk])] at he'
      cases he'
      show H1[B + hn A]? = some (vp_cell _ _)
      rw [e1, vp_cell_i]
      refine congrArg some (congrArg (arrV (dA 4) v.toNatClampNeg) (funext fun j => ?_))
      simp [hI, mk, newarray.typeOf, defaultValue]
  · show Value.ref (B + hn A) = .ref (adr B CS (hn A))
    unfold adr
    rw [if_pos hr.2.2.1]
theorem in_anewa {v : Int32} {ix : Nat} (hd : decode cc pc = .ok (.anewarray ix, 3)) (hl : Jvm.Cond.classLink own ix "LintelBrothers$Data" ∈ lw_tb) (hl2 : Jvm.Cond.arrayOver (.object "LintelBrothers$Data") ∈ lw_tb ∧ pW (Jvm.Cond.arrayOver (.object "LintelBrothers$Data")) = true) (hv : ¬ v < 0) (hv2 : v.toNatClampNeg ≤ 65536) (h0 : n0 ≤ hn A) (h1 : w0 ≤ hw A) (h2 : hn A + 1 ≤ hn A') (h3 : hw A + v.toNatClampNeg ≤ hw A') (K : Inn own cc nL rt ini hh d n0 w0 o A' (pc + 3) L (.ref (hn A) :: st) (mk A (7, v.toNatClampNeg) v.toNatClampNeg)) : Inn own cc nL rt ini hh d n0 w0 o A' pc L (.int v :: st) A := by
  intro p l e R s m args below meth c B Hb CS dC dI dA F hRm hB H locs ls ms hr hlo hL hst
  obtain ⟨hx, hb, hml, hlk, hown, hrt, hini, hT, hs0, hlw, hC⟩ := id F
  obtain ⟨mv, r, rfl, hv1, hst⟩ := hst
  cases (show mv = Value.int v from hv1)
  obtain ⟨g1, g2, g3, g4⟩ := hRm
  refine W.anew (C := "LintelBrothers$Data") hx hb hown (hC.2.1 _ hl rfl args) (hC.2.1 _ hl2.1 hl2.2 args) rfl hd rfl hv (by omega) (by omega) (by omega) (fun cA kA comp j1 j2 j3 j4 => ?_)
  obtain ⟨hAr, kA', comp', k1, k2, k3, k4⟩ := hC.2.2.1.2 6 _ rfl
  have hcA : cA = dA 7 := Option.some.inj (j1.symm.trans k4)
  subst hcA
  have ec : hn A - n0 + 1 = hn (mk A (7, v.toNatClampNeg) v.toNatClampNeg) - n0 := by show _ = hn A + 1 - n0; omega
  have es : hw A - w0 + v.toNatClampNeg = hw (mk A (7, v.toNatClampNeg) v.toNatClampNeg) - w0 := by show _ = hw A + v.toNatClampNeg - w0; omega
  rw [ec, es]
  refine (K p l e R s m args below meth c B Hb CS dC dI dA F ⟨g1, g2, g3, g4⟩ hB _ locs ls (_ :: r) ?_ hlo hL (stR.cons (show vR B CS (.ref (hn A)) (.ref H.size) from ?_) hst))
  · refine hr.push (by simp) (fun q hq => by rw [Array.getElem?_push, if_neg (Nat.ne_of_lt hq)]) (by omega) rfl (by simp [hK, mk]) (fun b hb => ?_) (fun e' he' => ?_)
    · exact c5 (by simp [hK, mk, hb]) (by funext j; simp [hI, mk, hb]) (by funext j; simp [hJ, mk, hb]) (by funext j; simp [hR, mk, hb]) (by funext j; simp [hU, mk, hb])
    · rw [celA_7 (n := v.toNatClampNeg) (by simp [hK, mk])] at he'
      cases he'
      show (H.push _)[B + hn A]? = some (vp_cell _ _)
      rw [← hr.size, arrV_new, vp_cell_q]
      simp [hR, mk, va_rf]
  · show Value.ref H.size = .ref (adr B CS (hn A))
    unfold adr
    rw [if_pos hr.2.2.1, hr.size]
theorem in_iret (hd : decode cc pc = .ok (.ireturn, 1)) {v : Int32} {ty : FieldType} (hty : rt = some ty) (hn9 : narrow ty (.int v) = .int v) (h0 : n0 ≤ hn A) (h1 : w0 ≤ hw A) : Inn own cc nL rt ini hh d n0 w0 (.inl (some (.int v))) A pc L [.int v] A := by
  intro p l e R s m args below meth c B Hb CS dC dI dA F hRm hB H locs ls ms hr hlo hL hst
  obtain ⟨hx, hb, hml, hlk, hown, hrt, hini, hT, hs0, hlw, hC⟩ := id F
  obtain ⟨mv, r, rfl, h1v, hst⟩ := hst
  cases (show r = [] from hst)
  cases (show mv = lvA B CS (.int v) from h1v)
  refine vx_ret ?_
  exact W.zret hx hb (hrt.trans hty) hn9 (fun t ht hW => ⟨some (.int v), rfl, rfl, by rw [ht]; exact hr⟩) hlo hd hlk
theorem in_lret (hd : decode cc pc = .ok (.lreturn, 1)) {v : Int64} (hty : rt = some .long) (h0 : n0 ≤ hn A) (h1 : w0 ≤ hw A) : Inn own cc nL rt ini hh d n0 w0 (.inl (some (.long v))) A pc L [.long v] A := by
  intro p l e R s m args below meth c B Hb CS dC dI dA F hRm hB H locs ls ms hr hlo hL hst
  obtain ⟨hx, hb, hml, hlk, hown, hrt, hini, hT, hs0, hlw, hC⟩ := id F
  obtain ⟨mv, r, rfl, h1v, hst⟩ := hst
  cases (show r = [] from hst)
  cases (show mv = lvA B CS (.long v) from h1v)
  refine vx_ret ?_
  exact W.lret hx hb (hrt.trans hty) (fun t ht hW => ⟨some (.long v), rfl, rfl, by rw [ht]; exact hr⟩) hlo hd hlk
theorem in_dret (hd : decode cc pc = .ok (.dreturn, 1)) {v : UInt64} (hty : rt = some .double) (h0 : n0 ≤ hn A) (h1 : w0 ≤ hw A) : Inn own cc nL rt ini hh d n0 w0 (.inl (some (.double v))) A pc L [.double v] A := by
  intro p l e R s m args below meth c B Hb CS dC dI dA F hRm hB H locs ls ms hr hlo hL hst
  obtain ⟨hx, hb, hml, hlk, hown, hrt, hini, hT, hs0, hlw, hC⟩ := id F
  obtain ⟨mv, r, rfl, h1v, hst⟩ := hst
  cases (show r = [] from hst)
  cases (show mv = lvA B CS (.double v) from h1v)
  refine vx_ret ?_
  exact W.dret hx hb (hrt.trans hty) (fun t ht hW => ⟨some (.double v), rfl, rfl, by rw [ht]; exact hr⟩) hlo hd hlk
theorem in_fret (hd : decode cc pc = .ok (.freturn, 1)) {v : UInt32} (hty : rt = some .float) (h0 : n0 ≤ hn A) (h1 : w0 ≤ hw A) : Inn own cc nL rt ini hh d n0 w0 (.inl (some (.float v))) A pc L [.float v] A := by
  intro p l e R s m args below meth c B Hb CS dC dI dA F hRm hB H locs ls ms hr hlo hL hst
  obtain ⟨hx, hb, hml, hlk, hown, hrt, hini, hT, hs0, hlw, hC⟩ := id F
  obtain ⟨mv, r, rfl, h1v, hst⟩ := hst
  cases (show r = [] from hst)
  cases (show mv = lvA B CS (.float v) from h1v)
  refine vx_ret ?_
  exact W.fret hx hb (hrt.trans hty) (fun t ht hW => ⟨some (.float v), rfl, rfl, by rw [ht]; exact hr⟩) hlo hd hlk
theorem in_aret (hd : decode cc pc = .ok (.areturn, 1)) {v : Nat} {rt0 : FieldType} (hty : rt = some rt0) (hrt0 : (∃ n, rt0 = .object n) ∨ ∃ t, rt0 = .array t) (h0 : n0 ≤ hn A) (h1 : w0 ≤ hw A) : Inn own cc nL rt ini hh d n0 w0 (.inl (some (.ref v))) A pc L [.ref v] A := by
  intro p l e R s m args below meth c B Hb CS dC dI dA F hRm hB H locs ls ms hr hlo hL hst
  obtain ⟨hx, hb, hml, hlk, hown, hrt, hini, hT, hs0, hlw, hC⟩ := id F
  obtain ⟨mv, r, rfl, h1v, hst⟩ := hst
  cases (show r = [] from hst)
  cases (show mv = lvA B CS (.ref v) from h1v)
  refine vx_ret ?_
  exact W.aret hx hb (hrt.trans hty) hrt0 (Or.inr ⟨_, rfl⟩) (fun t ht hW => ⟨some (.ref v), rfl, rfl, by rw [ht]; exact hr⟩) hlo hd hlk
theorem in_vret (hd : decode cc pc = .ok (.return_, 1)) (hty : rt = none) (h0 : n0 ≤ hn A) (h1 : w0 ≤ hw A) : Inn own cc nL rt ini hh d n0 w0 (.inl none) A pc L [] A := by
  intro p l e R s m args below meth c B Hb CS dC dI dA F hRm hB H locs ls ms hr hlo hL hst
  obtain ⟨hx, hb, hml, hlk, hown, hrt, hini, hT, hs0, hlw, hC⟩ := id F
  cases (show ms = [] from hst)
  refine vx_ret ?_
  exact W.vret hx hb (hrt.trans hty) (fun t ht hW => ⟨none, rfl, rfl, by rw [ht]; exact hr⟩) hlo hd hlk
end IN
