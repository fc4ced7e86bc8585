/-! calls: a method's contract over the machine, and a call by it -/
abbrev MIT : Type := MethodName × ByteArray × Nat × Option FieldType × List (Nat × Nat × Nat × Nat) × Bool
/-- a method's own word -/
def mword (q : MIT) : Jvm.Cond := match q.2.2.2.2.1 with
  | [] => .code q.1 q.2.1 q.2.2.1 q.2.2.2.1
  | hh => .codeWith q.1 q.2.1 q.2.2.1 q.2.2.2.1 hh
def rmD (d mc ms : Nat) : Room := { frames := FRd d, cells := mc, slots := ms, locals := LRd d }
def PcO (l : Launch) (B : Nat) (Hb : Heap) (CS : KT) (dC : Nat → ClassId) (dI : Nat → Nat → Nat) (dA : Nat → ClassId) (as : List Value) (A : HP) : Array Value → State → Prop := fun v U => v = (as.map (lvA B CS)).toArray ∧ Rel B Hb CS dC dI dA A U.heap ∧ Cx l B Hb CS dC dI dA U
/-- what is to be shown of a method for one start and one end -/
def MetOK (q : MIT) (d : Nat) (as : List Value) (A : HP) (o : Out) (A' : HP) : Prop :=
  ∀ (l : Launch) (B : Nat) (Hb : Heap) (CS : KT) (dC : Nat → ClassId) (dI : Nat → Nat → Nat) (dA : Nat → ClassId), hn A' < BIG →
    vx_Met l q.1 [mword q] (rmD d (hn A' - hn A) (hw A' - hw A)) (PcO l B Hb CS dC dI dA as A) (QO B Hb CS dC dI dA o A') (XO B Hb CS dC dI dA o A') (hn A' - hn A) (hw A' - hw A) (fun q => B ≤ q)
theorem PcO.blind {l : Launch} {B : Nat} {Hb : Heap} {CS : KT} {dC : Nat → ClassId} {dI : Nat → Nat → Nat} {dA : Nat → ClassId} {as : List Value} {A : HP} : FrameBlind (PcO l B Hb CS dC dI dA as A) := by
  intro a U g mk ⟨h1, h2, h3⟩
  exact ⟨h1, h2, h3.warm (U := U.calling g mk a) (State.WarmedH.refl U)⟩
theorem PcO.of {l : Launch} {B : Nat} {Hb : Heap} {CS : KT} {dC : Nat → ClassId} {dI : Nat → Nat → Nat} {dA : Nat → ClassId} {as : List Value} {A : HP} {s : State} {H : Heap} (hr : Rel B Hb CS dC dI dA A H) (hC : Cx l B Hb CS dC dI dA s) {ms : List Value} (hms : ms = as.map (lvA B CS)) :
    ∀ U : State, U.heap = H → s.WarmedH U.vm → PcO l B Hb CS dC dI dA as A ms.toArray U := fun U hU hW => ⟨by rw [hms], by rw [hU]; exact hr, hC.warm hW⟩
theorem popN_ok : ∀ (n : Nat) (st acc as r : List Value), popN n st acc = some (as, r) → ∃ x : List Value, x.length = n ∧ st = x ++ r ∧ as = x.reverse ++ acc
  | 0, st, acc, as, r, h => by
    cases (Option.some.inj h)
    exact ⟨[], rfl, rfl, rfl⟩
  | n + 1, [], acc, as, r, h => by cases h
  | n + 1, v :: st, acc, as, r, h => by
    obtain ⟨x, h1, h2, h3⟩ := popN_ok n st (v :: acc) as r h
    exact ⟨v :: x, by rw [List.length_cons, h1], by rw [h2]; rfl, by rw [h3]; simp⟩
theorem noJ_app : ∀ (x y : List Value), noJ (x ++ y) = (noJ x && noJ y)
  | [], y => by simp [noJ]
  | v :: x, y => by
    rw [List.cons_append]
    cases v <;> simp [noJ, noJ_app x y]
theorem noJ_rev : ∀ (x : List Value), noJ x.reverse = noJ x
  | [] => rfl
  | v :: x => by
    rw [List.reverse_cons, noJ_app, noJ_rev x]
    cases v <;> simp [noJ]
theorem stR_split {B : Nat} {CS : KT} : ∀ (x r ms : List Value), noJ x = true → stR B CS (x ++ r) ms → ∃ mr, ms = x.map (lvA B CS) ++ mr ∧ stR B CS r mr
  | [], r, ms, _, h => ⟨ms, rfl, h⟩
  | v :: x, r, ms, hj, ⟨mv, m2, e, h1, h2⟩ => by
    have hv : mv = lvA B CS v ∧ noJ x = true := by
      cases v with
      | retAddr p => cases hj
      | _ => exact ⟨h1, hj⟩
    obtain ⟨mr, e2, h3⟩ := stR_split x r m2 hv.2 h2
    exact ⟨mr, by rw [e, hv.1, e2]; rfl, h3⟩
section CL
variable {p : Program} {l : Launch} {e : Env} {R : Room} {s : State} {m : MethodId} {args : Array Value} {below : List Frame} {meth : Method} {c : Code} {H : Heap} {locs : List Loc} {cells slots mc ms : Nat} {Q : State → Prop}
variable {B : Nat} {Hb : Heap} {CS : KT} {dC : Nat → ClassId} {dI : Nat → Nat → Nat} {dA : Nat → ClassId} {pc : Nat} {ls : Array Slot} {rest st0 : List Value} {o1 : Out} {A1 : HP} {a9 : Array Value}
theorem w_call (hr : vx_Run p l e R s m args below meth c H locs cells slots mc ms (F0 m pc ls st0) rest (QO B Hb CS dC dI dA o1 A1 a9) (XO B Hb CS dC dI dA o1 A1) (fun q => B ≤ q))
    (kn : o1 = .inl none → ∀ (H1 : Heap) (L9 : List Loc), (∀ z ∈ L9, B ≤ z.base) → Rel B Hb CS dC dI dA A1 H1 → W p l e R s m args below meth c H1 (locs ++ L9) (cells + mc) (slots + ms) Q (F0 m (pc + 3) ls rest))
    (kv : ∀ v, o1 = .inl (some v) → ∀ (H1 : Heap) (L9 : List Loc), (∀ z ∈ L9, B ≤ z.base) → Rel B Hb CS dC dI dA A1 H1 → W p l e R s m args below meth c H1 (locs ++ L9) (cells + mc) (slots + ms) Q (F0 m (pc + 3) ls (lvA B CS v :: rest)))
    (kx : ∀ E, o1 = .inr E → ∀ (H1 : Heap) (L9 : List Loc) (q : Addr) (ce : Cell), (∀ z ∈ L9, B ≤ z.base) → Rel B Hb CS dC dI dA A1 H1 → H1[q]? = some ce → ce.vm = .none → s.vm.findClass (exN E) = some ce.cls → vx_W p l e R s m args below meth c H1 (locs ++ L9) (cells + mc) (slots + ms) Q (F0 m pc ls rest) q) :
    W p l e R s m args below meth c H locs cells slots Q (F0 m pc ls st0) := by
  intro T hT X
  rcases hr T hT X with ⟨v, st₀, t, T', L, e0, X', hL, e1, e2, ⟨r, ho, hv, hrel⟩, hgo⟩ | ⟨q, st₀, t, T', L, E, ce, e0, X', hL, e1, e2, ⟨n, ho, hE, hrel⟩, hce, hcv, hcl, hgo⟩
  · rw [← e1] at hrel
    cases r with
    | none =>
      cases (Outcome.returned.inj hv)
      obtain ⟨t2, a1, b1⟩ := kn ho T'.heap L hL hrel T' rfl X'
      exact ⟨t2, hgo t2 a1, b1⟩
    | some w =>
      cases (Outcome.returned.inj hv)
      obtain ⟨t2, a1, b1⟩ := kv w ho T'.heap L hL hrel T' rfl X'
      exact ⟨t2, hgo t2 a1, b1⟩
  · rw [← e1] at hrel hce
    subst hE
    obtain ⟨t2, a1, b1⟩ := kx n ho T'.heap L q ce hL hrel hce hcv hcl T' rfl X'
    exact ⟨t2, hgo.trans a1, b1⟩
/-- what the handlers' lists have in common -/
def hhOK (own : String) : List (Nat × Nat × Nat × Nat) → List (Nat × Nat × Nat × Nat) → Prop
  | [], [] => True
  | a :: l, b :: l2 => a.1 = b.1 ∧ a.2.1 = b.2.1 ∧ a.2.2.1 = b.2.2.1 ∧ b.2.2.2 < 4 ∧ a.2.2.2 ≠ 0 ∧ Jvm.Cond.classLink own a.2.2.2 (exN b.2.2.2) ∈ lw_tb ∧ Jvm.Cond.castable (exN b.2.2.2) (exN b.2.2.2) ∈ lw_tb ∧ hhOK own l l2
  | _, _ => False
theorem w_catch {own : String} (hown : s.vm.findClass own = some m.cls) (hC : Cx l B Hb CS dC dI dA s) {E h : Nat} {q : Addr} {ce : Cell} (hE : E < 6) (hcell : H[q]? = some ce) (hv : ce.vm = .none) (hcl : s.vm.findClass (exN E) = some ce.cls)
    (kk : W p l e R s m args below meth c H locs cells slots Q (F0 m h ls [.ref q])) :
    ∀ (xs pre : List ExceptionTableEntry) (hh h4 : List (Nat × Nat × Nat × Nat)), c.exceptionTable.toList = pre ++ xs → xs.map (fun x => (x.startPc, x.endPc, x.handlerPc, x.catchType)) = hh → hhOK own hh h4 → findH h4 pc E = some h →
      (∀ z ∈ pre, covers z pc = false ∨ (z.catchType ≠ 0 ∧ ∃ nm : String, (Jvm.Cond.classLink own z.catchType nm).before args s = true ∧ va_Nc (exN E) nm s)) →
      vx_W p l e R s m args below meth c H locs cells slots Q (F0 m pc ls rest) q
  | [], pre, hh, h4, _, hm, hok, hf, _ => by
    cases hm
    cases h4 with
    | nil => cases hf
    | cons b l2 => exact hok.elim
  | x :: xs, pre, hh, h4, hs, hm, hok, hf, hp => by
    cases hm
    cases h4 with
    | nil => exact hok.elim
    | cons b l2 =>
      obtain ⟨e1, e2, e3, h6, h0, hl, hcst, hrest⟩ := hok
      dsimp only at e1 e2 e3 h0 hl
      unfold findH at hf
      by_cases hcov : covers x pc = true
      · by_cases heq : b.2.2.2 = E
        · have hc1 : (Nat.ble b.1 pc && Nat.blt pc b.2.1 && Nat.beq b.2.2.2 E) = true := by
            simp only [covers, Bool.and_eq_true, decide_eq_true_eq] at hcov
            simp only [Bool.and_eq_true, Nat.ble_eq, Nat.beq_eq, ← e1, ← e2]
            exact ⟨⟨hcov.1, by simp [Nat.blt]; omega⟩, heq⟩
          have hc2 : (match b, l2 with | (a, b9, h9, e9), l9 => bif Nat.ble a pc && Nat.blt pc b9 && Nat.beq e9 E then some h9 else findH l9 pc E) = some b.2.2.1 := by
            show (bif Nat.ble b.1 pc && Nat.blt pc b.2.1 && Nat.beq b.2.2.2 E then some b.2.2.1 else findH l2 pc E) = _
            rw [hc1]; rfl
          have hh : h = b.2.2.1 := Option.some.inj (hf.symm.trans hc2)
          subst hh
          rw [heq] at hl hcst
          rw [← e3] at kk
          exact vx_catch hown pre x xs hs hp hcov h0 (hC.2.1 _ hl rfl args) (hC.2.1 _ hcst rfl args) hcell hv hcl kk
        · have hc2 : (match b, l2 with | (a, b9, h9, e9), l9 => bif Nat.ble a pc && Nat.blt pc b9 && Nat.beq e9 E then some h9 else findH l9 pc E) = findH l2 pc E := by
            show (bif Nat.ble b.1 pc && Nat.blt pc b.2.1 && Nat.beq b.2.2.2 E then some b.2.2.1 else findH l2 pc E) = _
            have : Nat.beq b.2.2.2 E = false := by
              cases hq : Nat.beq b.2.2.2 E with
              | false => rfl
              | true => exact absurd (Nat.eq_of_beq_eq_true hq) heq
            rw [this, Bool.and_false]; rfl
          have hf2 : findH l2 pc E = some h := hc2.symm.trans hf
          refine w_catch hown hC hE hcell hv hcl kk xs (pre ++ [x]) _ l2 (by rw [hs]; simp) rfl hrest hf2 (fun z hz => ?_)
          rcases List.mem_append.mp hz with hz | hz
          · exact hp z hz
          · rw [List.mem_singleton.mp hz]
            exact Or.inr ⟨h0, _, hC.2.1 _ hl rfl args, hC.2.2.2.2.2.2.2.2.2.2.1 E b.2.2.2 hE h6 (Ne.symm heq)⟩
      · have hcf : covers x pc = false := by simpa using hcov
        have hc1 : (Nat.ble b.1 pc && Nat.blt pc b.2.1 && Nat.beq b.2.2.2 E) = false := by
          cases hq : (Nat.ble b.1 pc && Nat.blt pc b.2.1 && Nat.beq b.2.2.2 E) with
          | false => rfl
          | true =>
            simp only [Bool.and_eq_true, Nat.ble_eq, ← e1, ← e2] at hq
            have h8 : pc < x.endPc := by have := hq.1.2; simp [Nat.blt] at this; omega
            exact absurd (by simp [covers, hq.1.1, h8]) hcov
        have hc2 : (match b, l2 with | (a, b9, h9, e9), l9 => bif Nat.ble a pc && Nat.blt pc b9 && Nat.beq e9 E then some h9 else findH l9 pc E) = findH l2 pc E := by
          show (bif Nat.ble b.1 pc && Nat.blt pc b.2.1 && Nat.beq b.2.2.2 E then some b.2.2.1 else findH l2 pc E) = _
          rw [hc1]; rfl
        have hf2 : findH l2 pc E = some h := hc2.symm.trans hf
        refine w_catch hown hC hE hcell hv hcl kk xs (pre ++ [x]) _ l2 (by rw [hs]; simp) rfl hrest hf2 (fun z hz => ?_)
        rcases List.mem_append.mp hz with hz | hz
        · exact hp z hz
        · rw [List.mem_singleton.mp hz]
          exact Or.inl hcf
end CL
