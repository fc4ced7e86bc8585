/-! the steps that read and write cells -/
theorem fit_char {w : Int32} (h : vp_nar .char w = w) : narrow .char (.int w) = .int w ∧ fits .char (.int w) = true := by
  have h1 : w.toUInt32.toUInt16.toUInt32.toInt32 = w := h
  refine ⟨congrArg Value.int h1, ?_⟩
  have h2 := pk_fc w
  have h3 : (w.toUInt32 % 65536).toInt32 = w := by
    rw [← UInt32.toUInt32_toUInt16]
    exact h1
  rw [h3] at h2
  exact h2
theorem fit_byte {w : Int32} (h : vp_nar .byte w = w) : narrow .byte (.int w) = .int w ∧ fits .byte (.int w) = true := by
  have h1 : w.toInt8.toInt32 = w := h
  refine ⟨congrArg Value.int h1, ?_⟩
  have h2 := pk_fb w
  rw [h1] at h2
  exact h2
theorem fit_bool {w : Int32} (h : vp_nar .boolean w = w) : narrow .boolean (.int w) = .int w ∧ fits .boolean (.int w) = true := by
  have h1 : w &&& 1 = w := h
  refine ⟨congrArg Value.int h1, ?_⟩
  obtain ⟨j, hj, e⟩ := pk_andE w (m := 1) 1 (by decide)
  rw [h1] at e
  subst e
  match j, hj with
  | 0, _ => decide
  | 1, _ => decide
theorem fit_ok {t : Nat} {ty : FieldType} {w : Int32} (h : fitT t w) (hty : (t = 0 ∧ ty = .int) ∨ (t = 3 ∧ ty = .char) ∨ (t = 4 ∧ ty = .byte) ∨ (t = 5 ∧ ty = .boolean)) : narrow ty (.int w) = .int w ∧ fits ty (.int w) = true := by
  rcases hty with ⟨rfl, rfl⟩ | ⟨rfl, rfl⟩ | ⟨rfl, rfl⟩ | ⟨rfl, rfl⟩
  · exact ⟨rfl, rfl⟩
  · exact fit_char h
  · exact fit_byte h
  · exact fit_bool h
section IN
variable {own : String} {cc : ByteArray} {nL : Nat} {rt : Option FieldType} {ini : Bool} {hh : List (Nat × Nat × Nat × Nat)} {d n0 w0 : Nat} {o : Out} {A A' : HP} {pc : Nat} {L : LV} {st : List Value}
theorem in_get {ci k ix a : Nat} {v : Value} (hd : decode cc pc = .ok (.getfield ix, 3)) (hf : fOK own ix ci k) (hci : ci < 12) (h0 : n0 ≤ hn A) (hk : hK A a = (10 + ci, 0)) (hv : ∀ B CS, vR B CS v (fvl B CS A a k ((ftag ci).getD k 0))) (hk11 : ci = 11 → k < 2) (hnn : v ≠ .null) (hnj : ∀ q, v ≠ .retAddr q) (K : Inn own cc nL rt ini hh d n0 w0 o A' (pc + 3) L (v :: st) A) : Inn own cc nL rt ini hh d n0 w0 o A' pc L (.ref a :: st) A := by
  intro p l e R s m args below meth c B Hb CS dC dI dA F hRm hB H locs ls ms hr hlo hL hst
  obtain ⟨hx, hb, hml, hlk, hown, hrt, hini, hT, hs0, hlw, hC⟩ := id F
  obtain ⟨mv, r, rfl, h1, hst⟩ := hst
  cases (show mv = _ from h1)
  obtain ⟨⟨C, T, N⟩, hc, hkN, hl⟩ := hf
  have hq := List.mem_of_getElem? hc
  obtain ⟨htl, hty, hnm⟩ := wcl_ty ci hci _ hc
  by_cases h11 : ci = 11 ∧ BIG ≤ a
  · obtain ⟨h11, hbg⟩ := h11
    subst h11
    have hS := Rel.vaS F hr h0 hlo
    obtain ⟨j, e1, e2, e3, e4, e5⟩ := hr.kon hk (Or.inr (Or.inr ⟨rfl, hbg⟩))
    obtain ⟨-, c1, c2⟩ := (hC.2.2.2.2.2.2.2.2.2.2.2 j 0).2.2 e3
    cases (Option.some.inj (hc.symm.trans (show wcl[11]? = some _ from rfl)))
    rw [show lvA B CS (.ref a) = .ref (CS.1 j) from congrArg Value.ref e2]
    have hv9 := hv B CS
    rw [e4] at c1
    rw [e5] at c2
    match k, hk11, hl, hv9 with
    | 0, _, hl, hv9 =>
      have hv9 : vR B CS v (va_rf ((hR A a 0).map (adr B CS))) := hv9
      cases hra : hR A a 0 with
      | none =>
        rw [hra] at hv9
        exact absurd (show v = .null by
          cases v with
          | null => rfl
          | retAddr q => exact absurd rfl (hnj q)
          | _ => cases hv9) hnn
      | some w =>
        rw [hra] at hv9
        exact vk_getf hx hb ((c2 w hra).kept (Fr.low F hr)) hS hown (hC.2.1 _ hl (by rfl) args) (fun _ h => h) hd (K p l e R s m args below meth c B Hb CS dC dI dA F hRm hB H locs ls (_ :: r) hr hlo hL (stR.cons hv9 hst))
    | 1, _, hl, hv9 =>
      exact vk_getf hx hb (c1.kept (Fr.low F hr)) hS hown (hC.2.1 _ hl (by rfl) args) (fun _ h => h) hd (K p l e R s m args below meth c B Hb CS dC dI dA F hRm hB H locs ls (_ :: r) hr hlo hL (stR.cons hv9 hst))
    | k + 2, hk11, _, _ => exact absurd (hk11 rfl) (by omega)
  exact va_get (D := (dC, dI)) (cl := wcl) (tys := tyA dA) (ws := [(adr B CS a, .inr (ci, objL B CS A a (ftag ci)))]) hx hb (Ts := u_ws C T N) (fun w hw => hC.2.1 w (wcl_ws _ hq w hw).1 (wcl_ws _ hq w hw).2 args) (fun _ h => h) hown hC.2.2.1 (P1 (hr.at (celA_o hk (by omega)))) 0 rfl hc k hkN
    (hC.2.1 _ hl (by rfl) args) (fun _ h => h) (objL_get (by rw [htl]; exact hkN)) hd (K p l e R s m args below meth c B Hb CS dC dI dA F hRm hB H locs ls (_ :: r) hr hlo hL (stR.cons (hv B CS) hst))
theorem in_put {ci k t ix a : Nat} {v : Value} {A1 : HP} (hd : decode cc pc = .ok (.putfield ix, 3)) (hf : pOK own ini ix ci k t) (hci : ci < 11 ∨ (ci = 11 ∧ a < BIG)) (hk : hK A a = (10 + ci, 0)) (h1K : hK A1 = hK A) (h1n : hn A1 = hn A) (h1w : hw A1 = hw A) (ho : ∀ b, b ≠ a → hI A1 b = hI A b ∧ hJ A1 b = hJ A b ∧ hR A1 b = hR A b ∧ hU A1 b = hU A b) (hfv : ∀ B CS, fvl B CS A1 a k t = lvA B CS v) (hfo : ∀ B CS j t, j ≠ k → fvl B CS A1 a j t = fvl B CS A a j t) (hvj : ∀ q, v ≠ .retAddr q)
    (hnf : ∀ B CS, narrow (ffty ci k) (lvA B CS v) = lvA B CS v ∧ fits (ffty ci k) (lvA B CS v) = true) (K : Inn own cc nL rt ini hh d n0 w0 o A' (pc + 3) L st A1) : Inn own cc nL rt ini hh d n0 w0 o A' pc L (v :: .ref a :: st) A := by
  intro p l e R s m args below meth c B Hb CS dC dI dA F hRm hB H locs ls ms hr hlo hL hst
  obtain ⟨hx, hb, hml, hlk, hown, hrt, hini, hT, hs0, hlw, hC⟩ := id F
  obtain ⟨mv, r, rfl, h1, ma, r2, rfl, h2, hst⟩ := hst
  cases (show ma = Value.ref (adr B CS a) from h2)
  have hmv : mv = lvA B CS v := by
    cases v with
    | retAddr q => exact absurd rfl (hvj q)
    | _ => exact h1
  subst hmv
  obtain ⟨⟨C, T, N⟩, hc, hkN, hl, hfin, htg, hty0⟩ := hf
  have hq := List.mem_of_getElem? hc
  obtain ⟨htl, hty, hnm⟩ := wcl_ty ci (by omega) _ hc
  obtain ⟨ha1, ha2, ha3⟩ := hr.own hk (by simp) ⟨by show 10 + ci ≠ 8; omega, by show 10 + ci ≠ 9; omega⟩ (fun h9 => by have h9 : 10 + ci = 21 := h9; omega)
  have hat := hr.at (celA_o hk (by omega))
  rw [ha3] at hat ⊢
  refine w_put (D := (dC, dI)) (cl := wcl) (tys := tyA dA) hx hb (Ts := u_ws C T N) (fun w hw => hC.2.1 w (wcl_ws _ hq w hw).1 (wcl_ws _ hq w hw).2 args) (fun _ h => h) (ffty ci) hty hnm hown hC.2.2.1 hat hc k hkN
    (hC.2.1 _ hl (by rfl) args) (fun _ h => h) (hfin.imp id (fun q => ⟨hini q.1, q.2⟩)) (hty k hkN) (hnf B CS).1 (hnf B CS).2 (by rw [objL_len, htl]; exact hkN) hd (fun H1 z hz e1 e2 e3 => ?_)
  rw [← h1n, ← h1w]
  refine (K p l e R s m args below meth c B Hb CS dC dI dA F hRm hB H1 (locs ++ [z]) ls r2 ?_ ?_ hL hst)
  · refine hr.put ha1 e1 e2 h1K h1n (fun b hb => ?_) (fun e' he' => ?_)
    · obtain ⟨g1, g2, g3, g4⟩ := ho b hb
      exact c5 (by rw [h1K]) g1 g2 g3 g4
    · rw [celA_o (by rw [h1K]; exact hk) (by omega)] at he'
      cases he'
      rw [objL_set (A := A) (k := k) (v := lvA B CS v) (fun _ => by rw [htg]; exact hfv B CS) (fun j t hj => hfo B CS j t hj)]
      exact e3
  · intro y hy
    rcases List.mem_append.mp hy with h | h
    · exact hlo y h
    · rw [List.mem_singleton.mp h, hz]; omega
theorem alen_aux {t n : Nat} (h0 : 0 < t) (h8 : t ≤ 9) : t = 1 ∨ t = 2 ∨ t = 3 ∨ t = 4 ∨ t = 5 ∨ t = 6 ∨ t = 7 ∨ t = 8 ∨ t = 9 := by omega
theorem in_alen {t n a : Nat} (hd : decode cc pc = .ok (.arraylength, 1)) (hk : hK A a = (t, n)) (g0 : n0 ≤ hn A) (h0 : 0 < t) (h8 : t ≤ 9) (K : Inn own cc nL rt ini hh d n0 w0 o A' (pc + 1) L (.int (Int32.ofNat n) :: st) A) : Inn own cc nL rt ini hh d n0 w0 o A' pc L (.ref a :: st) A := by
  intro p l e R s m args below meth c B Hb CS dC dI dA F hRm hB H locs ls ms hr hlo hL hst
  obtain ⟨hx, hb, hml, hlk, hown, hrt, hini, hT, hs0, hlw, hC⟩ := id F
  obtain ⟨mv, r, rfl, h1, hst⟩ := hst
  cases (show mv = _ from h1)
  rcases alen_aux (n := n) h0 h8 with rfl | rfl | rfl | rfl | rfl | rfl | rfl | rfl | rfl
  · exact va_alen (D := (dC, dI)) (cl := wcl) (tys := tyA dA) (ws := [(_, _)]) hx hb hC.2.2.1 (P1 (hr.at (celA_1 hk))) 0 0 rfl rfl rfl hd (K p l e R s m args below meth c B Hb CS dC dI dA F hRm hB H locs ls (_ :: r) hr hlo hL (stR.cons rfl hst))
  · exact va_alen (D := (dC, dI)) (cl := wcl) (tys := tyA dA) (ws := [(_, _)]) hx hb hC.2.2.1 (P1 (hr.at (celA_2 hk))) 0 1 rfl rfl rfl hd (K p l e R s m args below meth c B Hb CS dC dI dA F hRm hB H locs ls (_ :: r) hr hlo hL (stR.cons rfl hst))
  · exact va_alen (D := (dC, dI)) (cl := wcl) (tys := tyA dA) (ws := [(_, _)]) hx hb hC.2.2.1 (P1 (hr.at (celA_3 hk))) 0 2 rfl rfl rfl hd (K p l e R s m args below meth c B Hb CS dC dI dA F hRm hB H locs ls (_ :: r) hr hlo hL (stR.cons rfl hst))
  · exact va_alen (D := (dC, dI)) (cl := wcl) (tys := tyA dA) (ws := [(_, _)]) hx hb hC.2.2.1 (P1 (hr.at (celA_4 hk))) 0 3 rfl rfl rfl hd (K p l e R s m args below meth c B Hb CS dC dI dA F hRm hB H locs ls (_ :: r) hr hlo hL (stR.cons rfl hst))
  · exact va_alen (D := (dC, dI)) (cl := wcl) (tys := tyA dA) (ws := [(_, _)]) hx hb hC.2.2.1 (P1 (hr.at (celA_5 hk))) 0 4 rfl rfl rfl hd (K p l e R s m args below meth c B Hb CS dC dI dA F hRm hB H locs ls (_ :: r) hr hlo hL (stR.cons rfl hst))
  · exact va_alen (D := (dC, dI)) (cl := wcl) (tys := tyA dA) (ws := [(_, _)]) hx hb hC.2.2.1 (P1 (hr.at (celA_6 hk))) 0 5 rfl rfl rfl hd (K p l e R s m args below meth c B Hb CS dC dI dA F hRm hB H locs ls (_ :: r) hr hlo hL (stR.cons rfl hst))
  · exact va_alen (D := (dC, dI)) (cl := wcl) (tys := tyA dA) (ws := [(_, _)]) hx hb hC.2.2.1 (P1 (hr.at (celA_7 hk))) 0 6 rfl rfl rfl hd (K p l e R s m args below meth c B Hb CS dC dI dA F hRm hB H locs ls (_ :: r) hr hlo hL (stR.cons rfl hst))
  · obtain ⟨j, e1, e2, e3, e4, e5⟩ := hr.kon hk (Or.inl rfl)
    rw [show lvA B CS (.ref a) = .ref (CS.1 j) from congrArg Value.ref e2]
    exact va_tlen hx hb (((hC.2.2.2.2.2.2.2.2.2.2.2 j n).1 e3).kept (Fr.low F hr)) (Rel.vaS F hr g0 hlo) rfl hd (K p l e R s m args below meth c B Hb CS dC dI dA F hRm hB H locs ls (_ :: r) hr hlo hL (stR.cons rfl hst))
  · obtain ⟨j, e1, e2, e3, e4, e5⟩ := hr.kon hk (Or.inr (Or.inl rfl))
    rw [show lvA B CS (.ref a) = .ref (CS.1 j) from congrArg Value.ref e2]
    exact va_tlen hx hb (((hC.2.2.2.2.2.2.2.2.2.2.2 j n).2.1 e3).kept (Fr.low F hr)) (Rel.vaS F hr g0 hlo) rfl hd (K p l e R s m args below meth c B Hb CS dC dI dA F hRm hB H locs ls (_ :: r) hr hlo hL (stR.cons rfl hst))
theorem in_iaload {n a : Nat} {j : Int32} (hd : decode cc pc = .ok (.iaload, 1)) (hk : hK A a = (1, n)) (hj : vp_in j n) (K : Inn own cc nL rt ini hh d n0 w0 o A' (pc + 1) L (.int (hI A a j.toNatClampNeg) :: st) A) : Inn own cc nL rt ini hh d n0 w0 o A' pc L (.int j :: .ref a :: st) A := by
  intro p l e R s m args below meth c B Hb CS dC dI dA F hRm hB H locs ls ms hr hlo hL hst
  obtain ⟨hx, hb, hml, hlk, hown, hrt, hini, hT, hs0, hlw, hC⟩ := id F
  obtain ⟨mj, r, rfl, h1, ma, r2, rfl, h2, hst⟩ := hst
  cases (show mj = Value.int j from h1)
  cases (show ma = Value.ref (adr B CS a) from h2)
  exact va_iald (D := (dC, dI)) (cl := wcl) (tys := tyA dA) (ws := [(_, _)]) hx hb hC.2.2.1 (P1 (hr.at (celA_1 hk))) 0 0 rfl rfl hj hd (K p l e R s m args below meth c B Hb CS dC dI dA F hRm hB H locs ls (_ :: r2) hr hlo hL (stR.cons rfl hst))
theorem in_caload {n a : Nat} {j : Int32} (hd : decode cc pc = .ok (.caload, 1)) (hk : hK A a = (3, n)) (hj : vp_in j n) (K : Inn own cc nL rt ini hh d n0 w0 o A' (pc + 1) L (.int (hI A a j.toNatClampNeg) :: st) A) : Inn own cc nL rt ini hh d n0 w0 o A' pc L (.int j :: .ref a :: st) A := by
  intro p l e R s m args below meth c B Hb CS dC dI dA F hRm hB H locs ls ms hr hlo hL hst
  obtain ⟨hx, hb, hml, hlk, hown, hrt, hini, hT, hs0, hlw, hC⟩ := id F
  obtain ⟨mj, r, rfl, h1, ma, r2, rfl, h2, hst⟩ := hst
  cases (show mj = Value.int j from h1)
  cases (show ma = Value.ref (adr B CS a) from h2)
  exact va_cald (D := (dC, dI)) (cl := wcl) (tys := tyA dA) (ws := [(_, _)]) hx hb hC.2.2.1 (P1 (hr.at (celA_3 hk))) 0 2 rfl rfl hj hd (K p l e R s m args below meth c B Hb CS dC dI dA F hRm hB H locs ls (_ :: r2) hr hlo hL (stR.cons rfl hst))
theorem in_baload {n t a : Nat} {j : Int32} (hd : decode cc pc = .ok (.baload, 1)) (g0 : n0 ≤ hn A) (hk : hK A a = (t, n)) (ht : t = 4 ∨ t = 8) (hj : vp_in j n) (K : Inn own cc nL rt ini hh d n0 w0 o A' (pc + 1) L (.int (hI A a j.toNatClampNeg) :: st) A) : Inn own cc nL rt ini hh d n0 w0 o A' pc L (.int j :: .ref a :: st) A := by
  intro p l e R s m args below meth c B Hb CS dC dI dA F hRm hB H locs ls ms hr hlo hL hst
  obtain ⟨hx, hb, hml, hlk, hown, hrt, hini, hT, hs0, hlw, hC⟩ := id F
  obtain ⟨mj, r, rfl, h1, ma, r2, rfl, h2, hst⟩ := hst
  cases (show mj = Value.int j from h1)
  cases (show ma = Value.ref (adr B CS a) from h2)
  rcases ht with rfl | rfl
  · exact va_bald (D := (dC, dI)) (cl := wcl) (tys := tyA dA) (ws := [(_, _)]) hx hb hC.2.2.1 (P1 (hr.at (celA_4 hk))) 0 3 rfl rfl hj hd (K p l e R s m args below meth c B Hb CS dC dI dA F hRm hB H locs ls (_ :: r2) hr hlo hL (stR.cons rfl hst))
  · obtain ⟨k, e1, e2, e3, e4, e5⟩ := hr.kon hk (Or.inl rfl)
    have h9 := ((hC.2.2.2.2.2.2.2.2.2.2.2 k n).1 e3).kept (Fr.low F hr)
    rw [e4] at h9
    rw [e2]
    exact va_tb hx hb h9 (Rel.vaS F hr g0 hlo) hj rfl hd (K p l e R s m args below meth c B Hb CS dC dI dA F hRm hB H locs ls (_ :: r2) hr hlo hL (stR.cons rfl hst))
theorem in_ialoadK {n a : Nat} {j : Int32} (hd : decode cc pc = .ok (.iaload, 1)) (g0 : n0 ≤ hn A) (hk : hK A a = (9, n)) (hj : vp_in j n) (K : Inn own cc nL rt ini hh d n0 w0 o A' (pc + 1) L (.int (hI A a j.toNatClampNeg) :: st) A) : Inn own cc nL rt ini hh d n0 w0 o A' pc L (.int j :: .ref a :: st) A := by
  intro p l e R s m args below meth c B Hb CS dC dI dA F hRm hB H locs ls ms hr hlo hL hst
  obtain ⟨hx, hb, hml, hlk, hown, hrt, hini, hT, hs0, hlw, hC⟩ := id F
  obtain ⟨mj, r, rfl, h1, ma, r2, rfl, h2, hst⟩ := hst
  cases (show mj = Value.int j from h1)
  cases (show ma = Value.ref (adr B CS a) from h2)
  obtain ⟨k, e1, e2, e3, e4, e5⟩ := hr.kon hk (Or.inr (Or.inl rfl))
  have h9 := ((hC.2.2.2.2.2.2.2.2.2.2.2 k n).2.1 e3).kept (Fr.low F hr)
  rw [e4] at h9
  rw [e2]
  exact va_ti hx hb h9 (Rel.vaS F hr g0 hlo) hj rfl hd (K p l e R s m args below meth c B Hb CS dC dI dA F hRm hB H locs ls (_ :: r2) hr hlo hL (stR.cons rfl hst))
theorem in_aaload {n t a b : Nat} {j : Int32} (hd : decode cc pc = .ok (.aaload, 1)) (hk : hK A a = (t, n)) (ht : t = 6 ∨ t = 7) (hj : vp_in j n) (hb0 : hR A a j.toNatClampNeg = some b) (K : Inn own cc nL rt ini hh d n0 w0 o A' (pc + 1) L (.ref b :: st) A) : Inn own cc nL rt ini hh d n0 w0 o A' pc L (.int j :: .ref a :: st) A := by
  intro p l e R s m args below meth c B Hb CS dC dI dA F hRm hB H locs ls ms hr hlo hL hst
  obtain ⟨hx, hb, hml, hlk, hown, hrt, hini, hT, hs0, hlw, hC⟩ := id F
  obtain ⟨mj, r, rfl, h1, ma, r2, rfl, h2, hst⟩ := hst
  cases (show mj = Value.int j from h1)
  cases (show ma = Value.ref (adr B CS a) from h2)
  have hlt : j.toNatClampNeg < n := Nat.not_le.mp fun q => hj (Or.inr q)
  have hval : va_rf ((hR A a j.toNatClampNeg).map (adr B CS)) = .ref (adr B CS b) := by rw [hb0]; rfl
  rcases ht with rfl | rfl
  · exact W.aald (v := .ref (adr B CS b)) (ty := .array .int) hx hb (hr.at (celA_6 hk)) ((hC.2.2.1.2 5 _ rfl).1 n (fun j => va_rf ((hR A a j).map (adr B CS)))) rfl (fun q => by cases q) (by show ¬ (j < 0 ∨ (arrV _ _ _).slots.size ≤ _); rw [arrV_size]; exact hj) (by show (arrV _ _ _).slots[_]? = _; rw [arrV_read _ _ hlt, hval]) rfl rfl hd (K p l e R s m args below meth c B Hb CS dC dI dA F hRm hB H locs ls (_ :: r2) hr hlo hL (stR.cons rfl hst))
  · exact W.aald (v := .ref (adr B CS b)) (ty := .object "LintelBrothers$Data") hx hb (hr.at (celA_7 hk)) ((hC.2.2.1.2 6 _ rfl).1 n (fun j => va_rf ((hR A a j).map (adr B CS)))) rfl (fun q => by cases q) (by show ¬ (j < 0 ∨ (arrV _ _ _).slots.size ≤ _); rw [arrV_size]; exact hj) (by show (arrV _ _ _).slots[_]? = _; rw [arrV_read _ _ hlt, hval]) rfl rfl hd (K p l e R s m args below meth c B Hb CS dC dI dA F hRm hB H locs ls (_ :: r2) hr hlo hL (stR.cons rfl hst))
theorem in_iastore {n a : Nat} {j : Int32} {w : Int32} (hd : decode cc pc = .ok (.iastore, 1)) (hk : hK A a = (1, n)) (hj : vp_in j n) (K : Inn own cc nL rt ini hh d n0 w0 o A' (pc + 1) L st (sI A a j.toNatClampNeg w)) : Inn own cc nL rt ini hh d n0 w0 o A' pc L (.int w :: .int j :: .ref a :: st) A := by
  intro p l e R s m args below meth c B Hb CS dC dI dA F hRm hB H locs ls ms hr hlo hL hst
  obtain ⟨hx, hb, hml, hlk, hown, hrt, hini, hT, hs0, hlw, hC⟩ := id F
  obtain ⟨mw, r0, rfl, h0, mj, r, rfl, h1, ma, r2, rfl, h2, hst⟩ := hst
  cases (show mw = Value.int w from h0)
  cases (show mj = Value.int j from h1)
  cases (show ma = Value.ref (adr B CS a) from h2)
  obtain ⟨ha1, ha2, ha3⟩ := hr.own hk (by simp) (by simp) (by simp)
  have hat := hr.at (celA_1 hk)
  rw [ha3] at hat ⊢
  refine w_iast (D := (dC, dI)) (cl := wcl) (tys := tyA dA) hx hb hC.2.2.1 0 (g := hI (sI A a j.toNatClampNeg w) a) hat rfl hj hd (fun q => by simp [hI, sI, up2]) (fun H1 z hz e1 e2 e3 => ?_)
  refine (K p l e R s m args below meth c B Hb CS dC dI dA F hRm hB H1 (locs ++ [z]) ls r2 ?_ ?_ hL hst)
  · refine hr.put ha1 e1 e2 rfl rfl (fun b hb => ?_) (fun e' he' => ?_)
    · exact c5 rfl (by first | rfl | (funext q; simp [hI, sI, up2, hb])) (by first | rfl | (funext q; simp [hJ, sJ, up2, hb])) rfl (by first | rfl | (funext q; simp [hU, sU, up2, hb]))
    · rw [celA_1 (n := n) (by exact hk)] at he'
      cases he'
      exact e3
  · intro y hy
    rcases List.mem_append.mp hy with h | h
    · exact hlo y h
    · rw [List.mem_singleton.mp h, hz]; omega
theorem in_castore {n a : Nat} {j : Int32} {w : Int32} (hd : decode cc pc = .ok (.castore, 1)) (hk : hK A a = (3, n)) (hj : vp_in j n) (K : Inn own cc nL rt ini hh d n0 w0 o A' (pc + 1) L st (sI A a j.toNatClampNeg (vp_nar .char w))) : Inn own cc nL rt ini hh d n0 w0 o A' pc L (.int w :: .int j :: .ref a :: st) A := by
  intro p l e R s m args below meth c B Hb CS dC dI dA F hRm hB H locs ls ms hr hlo hL hst
  obtain ⟨hx, hb, hml, hlk, hown, hrt, hini, hT, hs0, hlw, hC⟩ := id F
  obtain ⟨mw, r0, rfl, h0, mj, r, rfl, h1, ma, r2, rfl, h2, hst⟩ := hst
  cases (show mw = Value.int w from h0)
  cases (show mj = Value.int j from h1)
  cases (show ma = Value.ref (adr B CS a) from h2)
  obtain ⟨ha1, ha2, ha3⟩ := hr.own hk (by simp) (by simp) (by simp)
  have hat := hr.at (celA_3 hk)
  rw [ha3] at hat ⊢
  refine w_cast (D := (dC, dI)) (cl := wcl) (tys := tyA dA) hx hb hC.2.2.1 2 (g := hI (sI A a j.toNatClampNeg (vp_nar .char w)) a) hat rfl hj hd (fun q => by simp [hI, sI, up2]) (fun H1 z hz e1 e2 e3 => ?_)
  refine (K p l e R s m args below meth c B Hb CS dC dI dA F hRm hB H1 (locs ++ [z]) ls r2 ?_ ?_ hL hst)
  · refine hr.put ha1 e1 e2 rfl rfl (fun b hb => ?_) (fun e' he' => ?_)
    · exact c5 rfl (by first | rfl | (funext q; simp [hI, sI, up2, hb])) (by first | rfl | (funext q; simp [hJ, sJ, up2, hb])) rfl (by first | rfl | (funext q; simp [hU, sU, up2, hb]))
    · rw [celA_3 (n := n) (by exact hk)] at he'
      cases he'
      exact e3
  · intro y hy
    rcases List.mem_append.mp hy with h | h
    · exact hlo y h
    · rw [List.mem_singleton.mp h, hz]; omega
theorem in_bastore {n a : Nat} {j : Int32} {w : Int32} (hd : decode cc pc = .ok (.bastore, 1)) (hk : hK A a = (4, n)) (hj : vp_in j n) (K : Inn own cc nL rt ini hh d n0 w0 o A' (pc + 1) L st (sI A a j.toNatClampNeg (vp_nar .byte w))) : Inn own cc nL rt ini hh d n0 w0 o A' pc L (.int w :: .int j :: .ref a :: st) A := by
  intro p l e R s m args below meth c B Hb CS dC dI dA F hRm hB H locs ls ms hr hlo hL hst
  obtain ⟨hx, hb, hml, hlk, hown, hrt, hini, hT, hs0, hlw, hC⟩ := id F
  obtain ⟨mw, r0, rfl, h0, mj, r, rfl, h1, ma, r2, rfl, h2, hst⟩ := hst
  cases (show mw = Value.int w from h0)
  cases (show mj = Value.int j from h1)
  cases (show ma = Value.ref (adr B CS a) from h2)
  obtain ⟨ha1, ha2, ha3⟩ := hr.own hk (by simp) (by simp) (by simp)
  have hat := hr.at (celA_4 hk)
  rw [ha3] at hat ⊢
  refine w_bast (D := (dC, dI)) (cl := wcl) (tys := tyA dA) hx hb hC.2.2.1 3 (g := hI (sI A a j.toNatClampNeg (vp_nar .byte w)) a) hat rfl hj hd (fun q => by simp [hI, sI, up2]) (fun H1 z hz e1 e2 e3 => ?_)
  refine (K p l e R s m args below meth c B Hb CS dC dI dA F hRm hB H1 (locs ++ [z]) ls r2 ?_ ?_ hL hst)
  · refine hr.put ha1 e1 e2 rfl rfl (fun b hb => ?_) (fun e' he' => ?_)
    · exact c5 rfl (by first | rfl | (funext q; simp [hI, sI, up2, hb])) (by first | rfl | (funext q; simp [hJ, sJ, up2, hb])) rfl (by first | rfl | (funext q; simp [hU, sU, up2, hb]))
    · rw [celA_4 (n := n) (by exact hk)] at he'
      cases he'
      exact e3
  · intro y hy
    rcases List.mem_append.mp hy with h | h
    · exact hlo y h
    · rw [List.mem_singleton.mp h, hz]; omega
theorem in_aastore {n a w : Nat} {j : Int32} (hd : decode cc pc = .ok (.aastore, 1)) (hk : hK A a = (7, n)) (hkw : hK A w = (12, 0)) (hj : vp_in j n) (K : Inn own cc nL rt ini hh d n0 w0 o A' (pc + 1) L st (sR A a j.toNatClampNeg (some w))) : Inn own cc nL rt ini hh d n0 w0 o A' pc L (.ref w :: .int j :: .ref a :: st) A := by
  intro p l e R s m args below meth c B Hb CS dC dI dA F hRm hB H locs ls ms hr hlo hL hst
  obtain ⟨hx, hb, hml, hlk, hown, hrt, hini, hT, hs0, hlw, hC⟩ := id F
  obtain ⟨mw, r0, rfl, h0, mj, r, rfl, h1, ma, r2, rfl, h2, hst⟩ := hst
  cases (show mw = Value.ref (adr B CS w) from h0)
  cases (show mj = Value.int j from h1)
  cases (show ma = Value.ref (adr B CS a) from h2)
  obtain ⟨ha1, ha2, ha3⟩ := hr.own hk (by simp) (by simp) (by simp)
  have hat := hr.at (celA_7 hk)
  have hatw := hr.at (celA_o (ci := 2) hkw (Or.inl (by decide)))
  rw [ha3] at hat ⊢
  refine w_aast (D := (dC, dI)) (cl := wcl) (tys := tyA dA) hx hb hC.2.2.1 6 2 (r := ("LintelBrothers$Data", F_2, 6)) (g := fun j' => (hR (sR A a j.toNatClampNeg (some w)) a j').map (adr B CS)) hat rfl hatw rfl hj hd (fun q => by by_cases hq : q = j.toNatClampNeg <;> simp [hR, sR, up2, hq]) (fun H1 z hz e1 e2 e3 => ?_)
  refine (K p l e R s m args below meth c B Hb CS dC dI dA F hRm hB H1 (locs ++ [z]) ls r2 ?_ ?_ hL hst)
  · refine hr.put ha1 e1 e2 rfl rfl (fun b hb => ?_) (fun e' he' => ?_)
    · exact c5 rfl rfl rfl (by funext q; simp [hR, sR, up2, hb]) rfl
    · rw [celA_7 (n := n) (by exact hk)] at he'
      cases he'
      exact e3
  · intro y hy
    rcases List.mem_append.mp hy with h | h
    · exact hlo y h
    · rw [List.mem_singleton.mp h, hz]; omega
end IN
