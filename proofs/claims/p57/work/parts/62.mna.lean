theorem ao_p : pW (Jvm.Cond.arrayOver (.object "LintelBrothers$Data")) = true ∧ pW (Jvm.Cond.arrayOver (.array .int)) = true := by decide
/-! rows of rows -/
section IN
variable {own : String} {cc : ByteArray} {nL : Nat} {rt : Option FieldType} {ini : Bool} {hh : List (Nat × Nat × Nat × Nat)} {d n0 w0 : Nat} {o : Out} {A A' : HP} {pc : Nat} {L : LV} {st : List Value}
theorem in_mna {v w : Int32} {ix : Nat} (hd : decode cc pc = .ok (.multianewarray ix 2, 4)) (hl : Jvm.Cond.classLink own ix "[[I" ∈ lw_tb) (hl2 : Jvm.Cond.arrayOver (.array .int) ∈ lw_tb ∧ pW (Jvm.Cond.arrayOver (.array .int)) = true) (hv : ¬ v < 0) (hw9 : ¬ w < 0) (hv2 : v.toNatClampNeg ≤ 1000) (hw2 : w.toNatClampNeg ≤ 1000) (h0 : n0 ≤ hn A) (h1 : w0 ≤ hw A) (h2 : hn A + 1 + v.toNatClampNeg ≤ hn A') (h3 : hw A + v.toNatClampNeg + v.toNatClampNeg * w.toNatClampNeg ≤ hw A')
    (K : Inn own cc nL rt ini hh d n0 w0 o A' (pc + 4) L (.ref (hn A) :: st) (mkG A 6 1 v.toNatClampNeg w.toNatClampNeg)) : Inn own cc nL rt ini hh d n0 w0 o A' pc L (.int w :: .int v :: st) A := by
  intro p l e R s m args below meth c B Hb CS dC dI dA F hRm hB H locs ls ms hr hlo hL hst
  obtain ⟨hx, hb, hml, hlk, hown, hrt, hini, hT0, hs0, hlw, hC⟩ := id F
  obtain ⟨m1, r1, rfl, j1, m2, r2, rfl, j2, hst⟩ := hst
  cases (show m1 = Value.int w from j1)
  cases (show m2 = Value.int v from j2)
  obtain ⟨g1, g2, g3, g4⟩ := hRm
  intro T hT Xs
  obtain ⟨vm₁, cA, comp, -, fA, fC, hO, -, X', step⟩ := Xs.multianewarray2F hx (ty := .int) (n := v) (k := w) hown (hC.2.1 _ hl rfl args) (hC.2.1 _ hl2.1 hl2.2 args) (hC.2.1 _ (ac_ok 1 (by omega)) rfl args) (g := F0 m pc ls (.int w :: .int v :: r2)) rfl (by rw [hb]; exact hd) rfl hv hw9 (by omega) (by show _ * 4 ≤ _; omega) (by omega) rfl rfl (by omega) (by omega)
  have hcA : cA = dA 6 := Option.some.inj (fA.symm.trans (hC.2.2.1.2 5 _ rfl).2)
  have hcc : comp = dA 1 := Option.some.inj (fC.symm.trans (hC.2.2.1.2 0 _ rfl).2)
  subst hcA
  subst hcc
  generalize hF : Jvm.Free.Multi.fill (T.setVm vm₁) (dA 6) (dA 1) v.toNatClampNeg w.toNatClampNeg (defaultValue .int) v.toNatClampNeg = G at X' step
  have hTh : (T.setVm vm₁).heap = H := hT
  obtain ⟨f1, f2, -, -⟩ := Jvm.Free.Multi.fill_facts (T.setVm vm₁) (dA 6) (dA 1) v.toNatClampNeg w.toNatClampNeg (defaultValue .int) v.toNatClampNeg
  rw [hF, hTh] at f1 f2
  have hold : ∀ x : Nat, x < H.size → G.heap[x]? = H[x]? := fun x hx => by
    have := Jvm.Free.Multi.fill_old (T.setVm vm₁) (dA 6) (dA 1) v.toNatClampNeg w.toNatClampNeg (defaultValue .int) (a := x) (by rw [hTh]; exact hx) v.toNatClampNeg
    rw [hF, hTh] at this
    exact this
  have hrow : ∀ j : Nat, j < v.toNatClampNeg → G.heap[H.size + 1 + j]? = some (arrV (dA 1) w.toNatClampNeg (fun _ => .int 0)) := fun j hj => by
    have := Jvm.Free.Multi.fill_inner (T.setVm vm₁) (dA 6) (dA 1) v.toNatClampNeg w.toNatClampNeg (defaultValue .int) v.toNatClampNeg j hj
    rw [hF, hTh] at this
    rw [this, ← arrV_new]
    rfl
  rw [vr_outer] at f2
  have ec : hn A - n0 + 1 + v.toNatClampNeg = hn (mkG A 6 1 v.toNatClampNeg w.toNatClampNeg) - n0 := by show _ = hn A + 1 + v.toNatClampNeg - n0; omega
  have es : hw A - w0 + v.toNatClampNeg + v.toNatClampNeg * w.toNatClampNeg = hw (mkG A 6 1 v.toNatClampNeg w.toNatClampNeg) - w0 := by show _ = hw A + v.toNatClampNeg + v.toNatClampNeg * w.toNatClampNeg - w0; omega
  rw [ec, es] at X'
  have hsz : T.heap.size = B + hn A := by rw [hT, hr.size]
  have hrel : Rel B Hb CS dC dI dA (mkG A 6 1 v.toNatClampNeg w.toNatClampNeg) G.heap := by
    obtain ⟨q1, q2, q3, q4, q5, q6, q7⟩ := hr
    have hn1 : hn (mkG A 6 1 v.toNatClampNeg w.toNatClampNeg) = hn A + 1 + v.toNatClampNeg := rfl
    refine ⟨q1, by rw [f1, q2, hn1]; omega, by rw [hn1]; omega, fun q hq => by rw [hold q (by omega)]; exact q4 q hq, fun a ha => ?_, fun a e' he' => ?_, fun a ha => ?_⟩
    · rw [hn1]
      by_cases ha0 : a = hn A
      · left
        subst ha0
        exact ⟨by omega, by simp [hK, mkG]⟩
      · by_cases ha1 : hn A < a ∧ a ≤ hn A + v.toNatClampNeg
        · left
          refine ⟨by omega, ?_⟩
          simp only [hK, mkG]
          rw [if_neg ha0, if_pos ha1]
          simp
        · have hk : hK (mkG A 6 1 v.toNatClampNeg w.toNatClampNeg) a = hK A a := by
            simp only [hK, mkG]
            rw [if_neg ha0, if_neg ha1]
          rw [hk] at ha ⊢
          rcases q5 a ha with ⟨h8, h9⟩ | h9
          · exact Or.inl ⟨by omega, h9⟩
          · exact Or.inr h9
    · by_cases ha0 : a = hn A
      · subst ha0
        rw [celA_6 (n := v.toNatClampNeg) (by simp [hK, mkG])] at he'
        cases he'
        have e8 : adr B CS (hn A) = B + hn A := if_pos q3
        show G.heap[adr B CS (hn A)]? = some (vp_cell _ _)
        rw [e8, ← q2, f2, vp_cell_q]
        refine congrArg some (congrArg (arrV (dA 6) v.toNatClampNeg) (funext fun j => ?_))
        by_cases hj : j < v.toNatClampNeg
        · have e9 : hR (mkG A 6 1 v.toNatClampNeg w.toNatClampNeg) (hn A) j = some (hn A + 1 + j) := by simp [hR, mkG, hj]
          rw [if_pos hj, e9]
          show va_rf _ = va_rf (some (adr B CS (hn A + 1 + j)))
          rw [show adr B CS (hn A + 1 + j) = B + (hn A + 1 + j) from if_pos (by omega), q2]
          congr 2
          omega
        · have e9 : hR (mkG A 6 1 v.toNatClampNeg w.toNatClampNeg) (hn A) j = none := by simp [hR, mkG, hj]
          rw [if_neg hj, e9]
          rfl
      · by_cases ha1 : hn A < a ∧ a ≤ hn A + v.toNatClampNeg
        · rw [celA_1 (n := w.toNatClampNeg) (by simp only [hK, mkG]; rw [if_neg ha0, if_pos ha1])] at he'
          cases he'
          have e8 : adr B CS a = B + a := if_pos (by omega)
          show G.heap[adr B CS a]? = some (vp_cell _ _)
          have h7 := hrow (a - hn A - 1) (by omega)
          rw [e8, show B + a = H.size + 1 + (a - hn A - 1) by omega, h7, vp_cell_i]
          refine congrArg some (congrArg (arrV (dA 1) w.toNatClampNeg) (funext fun j => ?_))
          simp only [hI, mkG]
          rw [if_pos (by omega)]
        · have hco : celA B CS dA (mkG A 6 1 v.toNatClampNeg w.toNatClampNeg) a = celA B CS dA A a := by
            refine celA_congr ?_ ?_ ?_ ?_ ?_
            · simp only [hK, mkG]; rw [if_neg ha0, if_neg ha1]
            · funext j; simp only [hI, mkG]; rw [if_neg (by omega)]
            · funext j; simp only [hJ, mkG]; rw [if_neg (by omega)]
            · funext j; simp only [hR, mkG]; rw [if_neg ha0, if_neg (by omega)]
            · funext j; simp only [hU, mkG]; rw [if_neg (by omega)]
          rw [hco] at he'
          have h8 := q6 a e' he'
          exact h8.kept (hold _ h8.lt)
    · obtain ⟨g1, g2, g3⟩ := q7 a ha
      refine ⟨?_, ?_, ?_⟩
      · rw [← g1]; simp only [hK, mkG]; rw [if_neg (by omega), if_neg (by omega)]
      · rw [← g2]; funext j; simp only [hI, mkG]; rw [if_neg (by omega)]
      · rw [← g3]; funext j; simp only [hR, mkG]; rw [if_neg (by omega), if_neg (by omega)]
  obtain ⟨t2, a1, b1⟩ := K p l e R s m args below meth c B Hb CS dC dI dA F ⟨g1, g2, g3, g4⟩ hB G.heap locs ls (.ref T.heap.size :: r2) hrel hlo hL (stR.cons (show vR B CS (.ref (hn A)) (.ref T.heap.size) from by
    show Value.ref T.heap.size = .ref (adr B CS (hn A))
    rw [hsz, show adr B CS (hn A) = B + hn A from if_pos hr.2.2.1]) hst) G rfl X'
  exact ⟨t2, step t2 a1, b1⟩
end IN
