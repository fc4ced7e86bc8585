/-! a method's run at one place; the steps on locals, branches and ends -/
def lR (B : Nat) (CS : KT) (L : LV) (nL : Nat) (ls : Array Slot) : Prop := ∃ l : List (Nat × Value), lv_has ls nL l ∧ ∀ i v, nth L i = some (some v) → ∃ mv, (i, mv) ∈ l ∧ vR B CS v mv
theorem nth_self {α : Type} : ∀ (L : List α) (k : Nat) (x y : α), nth (L.set k x) k = some y → y = x
  | [], k, x, y, h => by cases h
  | a :: L, 0, x, y, h => (Option.some.inj h).symm
  | a :: L, k + 1, x, y, h => nth_self L k x y h
theorem nth_ne {α : Type} : ∀ (L : List α) (k i : Nat) (x : α), i ≠ k → nth (L.set k x) i = nth L i
  | [], k, i, x, h => rfl
  | a :: L, 0, 0, x, h => absurd rfl h
  | a :: L, 0, i + 1, x, h => rfl
  | a :: L, k + 1, 0, x, h => rfl
  | a :: L, k + 1, i + 1, x, h => nth_ne L k i x (fun e => h (by rw [e]))
theorem okS_prev {L : LV} {k i : Nat} {w : Value} (h : okS L k = true) (hi : i + 1 = k) (hw : nth L i = some (some w)) : ¬ w.category = 2 := by
  subst hi
  intro hc
  dsimp only [okS] at h
  rw [hw] at h
  simp [hc] at h
section LR
variable {B : Nat} {CS : KT} {L : LV} {nL : Nat} {ls : Array Slot}
theorem lR.get (h : lR B CS L nL ls) {k : Nat} {v : Value} (hv : nth L k = some (some v)) : ∃ mv, ls[k]? = some (.val mv) ∧ vR B CS v mv := by
  obtain ⟨l, h1, h2⟩ := h
  obtain ⟨mv, h3, h4⟩ := h2 k v hv
  exact ⟨mv, h1.2.2 _ h3, h4⟩
theorem lR.set1 {l : List (Nat × Value)} {ls' : Array Slot} {k : Nat} {v mv : Value} (hl : ∀ i v, nth L i = some (some v) → ∃ mv, (i, mv) ∈ l ∧ vR B CS v mv) (hok : okS L k = true) (hv : vR B CS v mv)
    (h : lv_has ls' nL ((k, mv) :: l.filter (fun q => !(q.1 == k) && !(q.1 + 1 == k && q.2.category == 2)))) : lR B CS (L.set k (some v)) nL ls' := by
  refine ⟨_, h, fun i w hw => ?_⟩
  by_cases hi : i = k
  · subst hi
    cases nth_self _ _ _ _ hw
    exact ⟨mv, List.mem_cons_self, hv⟩
  · rw [nth_ne _ _ _ _ hi] at hw
    obtain ⟨mw, h3, h4⟩ := hl i w hw
    refine ⟨mw, List.mem_cons_of_mem _ (List.mem_filter.mpr ⟨h3, ?_⟩), h4⟩
    have hc := h4.cat
    by_cases hj : i + 1 = k
    · have h5 := okS_prev hok hj hw
      simp [hi, hc, h5]
    · simp [hi, hj]
theorem lR.none1 {l : List (Nat × Value)} {ls' : Array Slot} {k : Nat} {mv : Value} (hl : ∀ i v, nth L i = some (some v) → ∃ mv, (i, mv) ∈ l ∧ vR B CS v mv) (hok : okS L k = true)
    (h : lv_has ls' nL ((k, mv) :: l.filter (fun q => !(q.1 == k) && !(q.1 + 1 == k && q.2.category == 2)))) : lR B CS (L.set k none) nL ls' := by
  refine ⟨_, h, fun i w hw => ?_⟩
  by_cases hi : i = k
  · subst hi
    cases nth_self _ _ _ _ hw
  · rw [nth_ne _ _ _ _ hi] at hw
    obtain ⟨mw, h3, h4⟩ := hl i w hw
    refine ⟨mw, List.mem_cons_of_mem _ (List.mem_filter.mpr ⟨h3, ?_⟩), h4⟩
    have hc := h4.cat
    by_cases hj : i + 1 = k
    · have h5 := okS_prev hok hj hw
      simp [hi, hc, h5]
    · simp [hi, hj]
theorem lR.set2 {l : List (Nat × Value)} {ls' : Array Slot} {k : Nat} {v mv : Value} (hl : ∀ i v, nth L i = some (some v) → ∃ mv, (i, mv) ∈ l ∧ vR B CS v mv) (hok : okS L k = true) (hv : vR B CS v mv)
    (h : lv_has ls' nL ((k, mv) :: l.filter (fun q => !(q.1 == k) && (!(q.1 == k + 1) && !(q.1 + 1 == k && q.2.category == 2))))) : lR B CS ((L.set k (some v)).set (k + 1) none) nL ls' := by
  refine ⟨_, h, fun i w hw => ?_⟩
  by_cases h1 : i = k + 1
  · subst h1
    cases nth_self _ _ _ _ hw
  rw [nth_ne _ _ _ _ h1] at hw
  by_cases hi : i = k
  · subst hi
    cases nth_self _ _ _ _ hw
    exact ⟨mv, List.mem_cons_self, hv⟩
  · rw [nth_ne _ _ _ _ hi] at hw
    obtain ⟨mw, h3, h4⟩ := hl i w hw
    refine ⟨mw, List.mem_cons_of_mem _ (List.mem_filter.mpr ⟨h3, ?_⟩), h4⟩
    have hc := h4.cat
    by_cases hj : i + 1 = k
    · have h5 := okS_prev hok hj hw
      simp [hi, h1, hc, h5]
    · simp [hi, h1, hj]
end LR
def tyA (dA : Nat → ClassId) : List (ClassId × FieldType) := [(dA 1, .int), (dA 2, .int), (dA 3, .char), (dA 4, .byte), (dA 5, .int), (dA 6, .array .int), (dA 7, .object "LintelBrothers$Data")]
/-- texts of exceptions: class, place in its pool, text -/
def msgT : List (String × Nat × String) := [("LintelBrothers", 86, "there is no room for a further door"), ("LintelBrothers", 105, "no height is left"), ("LintelBrothers", 150, "no such kind, a gap out of range, or the same door twice"), ("LintelBrothers", 157, "there is no room for this constraint, or it is there"), ("LintelBrothers", 170, "no such position"), ("LintelBrothers", 198, "there is a conflict in the pass"), ("LintelBrothers", 203, "there is a conflict in a pass"), ("LintelBrothers", 208, "a pass would be rejected"), ("LintelBrothers", 214, "settle would be rejected"), ("LintelBrothers", 220, "a path leads above a high bound"), ("LintelBrothers", 234, "there is no peace"), ("LintelBrothers", 242, "a height is out of range"), ("LintelBrothers", 263, "there are no doors"), ("LintelBrothers", 298, "no character at this index"), ("LintelBrothers", 372, "no such door"), ("LintelBrothers", 377, "no constraint with this id")]
/-- texts that are used as texts: class, place, text, which constant -/
def strT : List (String × Nat × String × Nat) := [("LintelBrothers", 285, "..", 0), ("LintelBrothersLaw", 192, "[", 1), ("LintelBrothersLaw", 197, "", 2), ("LintelBrothersLaw", 199, "..", 3), ("LintelBrothersLaw", 205, "]", 4), ("LintelBrothersLaw", 207, "*", 5), ("LintelBrothersLaw", 226, ":", 6), ("LintelBrothersLaw", 231, "+", 7)]
def exN (n : Nat) : String := match n with
  | 0 => "java/lang/IllegalArgumentException"
  | 1 => "java/lang/UnsupportedOperationException"
  | 2 => "java/lang/IndexOutOfBoundsException"
  | 3 => "java/util/NoSuchElementException"
  | _ => "java/lang/ArithmeticException"
/-- the constants: arrays of bytes, of ints, texts -/
def KF (B : Nat) (Hb : Heap) (CS : KT) (s : State) : Prop := ∀ k n : Nat,
  (hK CS.2 (BIG + k) = (8, n) → va_T .byte (CS.1 k) n (fun j => .int (hI CS.2 (BIG + k) j)) (fun q => B ≤ q) s Hb) ∧
  (hK CS.2 (BIG + k) = (9, n) → va_T .int (CS.1 k) n (fun j => .int (hI CS.2 (BIG + k) j)) (fun q => B ≤ q) s Hb) ∧
  (hK CS.2 (BIG + k) = (21, n) → va_O "java/lang/String" (CS.1 k) (fun q => B ≤ q) s Hb ∧ va_OF "java/lang/String" "coder" "B" (.int (hI CS.2 (BIG + k) 1)) (CS.1 k) (fun q => B ≤ q) s Hb ∧ ∀ v, hR CS.2 (BIG + k) 0 = some v → va_OF "java/lang/String" "value" "[B" (.ref (adr B CS v)) (CS.1 k) (fun q => B ≤ q) s Hb)
theorem KF.warm {B : Nat} {Hb : Heap} {CS : KT} {s U : State} (hW : s.WarmedH U.vm) (h : KF B Hb CS s) : KF B Hb CS U := fun k n =>
  ⟨fun e => va_T.moved hW.alike ((h k n).1 e), fun e => va_T.moved hW.alike ((h k n).2.1 e), fun e => ⟨va_O.moved hW.alike ((h k n).2.2 e).1, va_OF.moved hW.alike ((h k n).2.2 e).2.1, fun v hv => va_OF.moved hW.alike (((h k n).2.2 e).2.2 v hv)⟩⟩
/-- a static that holds null or some reference -/
def SIO (B : Nat) (Hb : Heap) (CS : KT) (s : State) : Prop := va_Z "jdk/internal/util/Preconditions" "SIOOBE_FORMATTER" "Ljava/util/function/BiFunction;" .null (fun q => B ≤ q) s Hb ∨ va_Z "jdk/internal/util/Preconditions" "SIOOBE_FORMATTER" "Ljava/util/function/BiFunction;" (.ref (CS.1 21)) (fun q => B ≤ q) s Hb
theorem SIO.warm {B : Nat} {Hb : Heap} {CS : KT} {s U : State} (hW : s.WarmedH U.vm) (h : SIO B Hb CS s) : SIO B Hb CS U := by
  rcases h with h | h
  · exact Or.inl (va_Z.moved hW.alike h)
  · exact Or.inr (va_Z.moved hW.alike h)
/-- statics: class, name, descriptor, which constant -/
def SF (B : Nat) (Hb : Heap) (CS : KT) (s : State) : Prop :=
  (∀ q ∈ msgT, ∃ sa, vk_R q.1 q.2.1 q.2.2 sa s) ∧ (∀ q ∈ strT, vk_R q.1 q.2.1 q.2.2.1 (CS.1 q.2.2.2) s) ∧
  vx_Zq Bundle.tN "UNASSIGNED_STACK" Bundle.steD (fun q => B ≤ q) s Hb ∧ vx_Zq Bundle.tN "SUPPRESSED_SENTINEL" Bundle.listD (fun q => B ≤ q) s Hb ∧
  (va_Z "java/lang/String" "COMPACT_STRINGS" "Z" (.int 1) (fun q => B ≤ q) s Hb ∧ SIO B Hb CS s) ∧ va_Z "java/lang/Integer" "DigitTens" "[B" (.ref (CS.1 18)) (fun q => B ≤ q) s Hb ∧ va_Z "java/lang/Integer" "DigitOnes" "[B" (.ref (CS.1 19)) (fun q => B ≤ q) s Hb ∧ (∀ a b, a < 6 → b < 4 → a ≠ b → va_Nc (exN a) (exN b) s) ∧ KF B Hb CS s
theorem SF.warm {B : Nat} {Hb : Heap} {CS : KT} {s U : State} (hW : s.WarmedH U.vm) (h : SF B Hb CS s) : SF B Hb CS U := by
  obtain ⟨h1, h2, h3, h4, h5, h6, h7, h8, h9⟩ := h
  exact ⟨fun q hq => by obtain ⟨sa, h⟩ := h1 q hq; exact ⟨sa, vk_R.warm hW h⟩, fun q hq => vk_R.warm hW (h2 q hq), vx_Zq.moved hW.alike h3, vx_Zq.moved hW.alike h4, ⟨va_Z.moved hW.alike h5.1, h5.2.warm hW⟩, va_Z.moved hW.alike h6, va_Z.moved hW.alike h7, fun a b ha hb hab => (h8 a b ha hb hab).moved hW.alike, h9.warm hW⟩
/-- what a state's tables give -/
def Cx (l : Launch) (B : Nat) (Hb : Heap) (CS : KT) (dC : Nat → ClassId) (dI : Nat → Nat → Nat) (dA : Nat → ClassId) (s : State) : Prop :=
  l.stackTraces = false ∧ WD s ∧ va_K (dC, dI) wcl (tyA dA) s ∧ SF B Hb CS s
theorem Cx.warm {l : Launch} {B : Nat} {Hb : Heap} {CS : KT} {dC : Nat → ClassId} {dI : Nat → Nat → Nat} {dA : Nat → ClassId} {s U : State} (hW : s.WarmedH U.vm) (h : Cx l B Hb CS dC dI dA s) : Cx l B Hb CS dC dI dA U :=
  ⟨h.1, h.2.1.warm hW, va_K.moved hW.alike h.2.2.1, h.2.2.2.warm hW⟩
/-- a method's frame -/
def Fr (p : Program) (l : Launch) (s : State) (m : MethodId) (meth : Method) (c : Code) (own : String) (cc : ByteArray) (nL : Nat) (rt : Option FieldType) (ini : Bool) (hh : List (Nat × Nat × Nat × Nat)) (n0 : Nat) (B : Nat) (Hb : Heap) (CS : KT) (dC : Nat → ClassId) (dI : Nat → Nat → Nat) (dA : Nat → ClassId) : Prop :=
  p.tables.exec = Jvm.exec ∧ c.code = cc ∧ c.maxLocals = nL ∧ meth.locks = false ∧ s.vm.findClass own = some m.cls ∧ meth.sig.returnType = rt ∧ (ini = true → meth.name = "<init>") ∧ c.exceptionTable.toList.map (fun x => (x.startPc, x.endPc, x.handlerPc, x.catchType)) = hh ∧ s.heap.size = B + n0 ∧ (∀ q : Nat, q < B → s.heap[q]? = Hb[q]?) ∧ Cx l B Hb CS dC dI dA s
theorem Fr.low {p : Program} {l : Launch} {s : State} {m : MethodId} {meth : Method} {c : Code} {own : String} {cc : ByteArray} {nL : Nat} {rt : Option FieldType} {ini : Bool} {hh : List (Nat × Nat × Nat × Nat)} {n0 B : Nat} {Hb : Heap} {CS : KT} {dC : Nat → ClassId} {dI : Nat → Nat → Nat} {dA : Nat → ClassId} {A : HP} {H : Heap} (F : Fr p l s m meth c own cc nL rt ini hh n0 B Hb CS dC dI dA) (hr : Rel B Hb CS dC dI dA A H) : ∀ a : Nat, a < Hb.size → ¬ (fun q : Nat => B ≤ q) a → s.heap[a]? = Hb[a]? := by
  obtain ⟨hx, hb, hml, hlk, hown, hrt, hini, hT, hs0, hlw, hC⟩ := F
  exact fun a ha _ => hlw a (by rw [hr.1] at ha; exact ha)
theorem Rel.vaS {p : Program} {l : Launch} {s : State} {m : MethodId} {meth : Method} {c : Code} {own : String} {cc : ByteArray} {nL : Nat} {rt : Option FieldType} {ini : Bool} {hh : List (Nat × Nat × Nat × Nat)} {n0 B : Nat} {Hb : Heap} {CS : KT} {dC : Nat → ClassId} {dI : Nat → Nat → Nat} {dA : Nat → ClassId} {A : HP} {H : Heap} {locs : List Loc} (F : Fr p l s m meth c own cc nL rt ini hh n0 B Hb CS dC dI dA) (hr : Rel B Hb CS dC dI dA A H) (h0 : n0 ≤ hn A) (hlo : ∀ z ∈ locs, B ≤ z.base) : va_S (fun q : Nat => B ≤ q) s.heap H locs := by
  obtain ⟨hx, hb, hml, hlk, hown, hrt, hini, hT, hs0, hlw, hC⟩ := F
  exact ⟨by rw [hs0, hr.size]; omega, fun q hq hq2 => by rw [hr.2.2.2.1 q (by omega), hlw q (by omega)], hlo⟩
def FRd (d : Nat) : Nat := d + 30
def LRd (d : Nat) : Nat := 64 * d + 800
def Bd (d : Nat) (R : Room) (mc ms : Nat) : Prop := FRd d ≤ R.frames ∧ LRd d ≤ R.locals ∧ mc ≤ R.cells ∧ ms ≤ R.slots
/-- how a method ends -/
def QO (B : Nat) (Hb : Heap) (CS : KT) (dC : Nat → ClassId) (dI : Nat → Nat → Nat) (dA : Nat → ClassId) (o : Out) (A' : HP) : Array Value → State → Outcome → State → Prop := fun _ _ oc t => ∃ r : Option Value, o = .inl r ∧ oc = .returned (r.map (lvA B CS)) ∧ Rel B Hb CS dC dI dA A' t.heap
def XO (B : Nat) (Hb : Heap) (CS : KT) (dC : Nat → ClassId) (dI : Nat → Nat → Nat) (dA : Nat → ClassId) (o : Out) (A' : HP) : String → State → State → Prop := fun E _ t => ∃ n : Nat, o = .inr n ∧ E = exN n ∧ Rel B Hb CS dC dI dA A' t.heap
def Cfg (p : Program) (l : Launch) (e : Env) (R : Room) (s : State) (m : MethodId) (args : Array Value) (below : List Frame) (meth : Method) (c : Code) (B : Nat) (Hb : Heap) (CS : KT) (dC : Nat → ClassId) (dI : Nat → Nat → Nat) (dA : Nat → ClassId) (nL n0 w0 : Nat) (Q : State → Prop) (pc : Nat) (L : LV) (st : List Value) (A : HP) : Prop :=
  ∀ (H : Heap) (locs : List Loc) (ls : Array Slot) (ms : List Value), Rel B Hb CS dC dI dA A H → (∀ z ∈ locs, B ≤ z.base) → lR B CS L nL ls → stR B CS st ms → W p l e R s m args below meth c H locs (hn A - n0) (hw A - w0) Q (F0 m pc ls ms)
/-- a run from a place to the end o, A' -/
def Inn (own : String) (cc : ByteArray) (nL : Nat) (rt : Option FieldType) (ini : Bool) (hh : List (Nat × Nat × Nat × Nat)) (d n0 w0 : Nat) (o : Out) (A' : HP) (pc : Nat) (L : LV) (st : List Value) (A : HP) : Prop :=
  ∀ (p : Program) (l : Launch) (e : Env) (R : Room) (s : State) (m : MethodId) (args : Array Value) (below : List Frame) (meth : Method) (c : Code) (B : Nat) (Hb : Heap) (CS : KT) (dC : Nat → ClassId) (dI : Nat → Nat → Nat) (dA : Nat → ClassId),
    Fr p l s m meth c own cc nL rt ini hh n0 B Hb CS dC dI dA → Bd d R (hn A' - n0) (hw A' - w0) → hn A' < BIG →
    Cfg p l e R s m args below meth c B Hb CS dC dI dA nL n0 w0 (vx_MQ below (QO B Hb CS dC dI dA o A') (XO B Hb CS dC dI dA o A') args s (hn A' - n0) (hw A' - w0) (fun q => B ≤ q)) pc L st A
section IN
variable {own : String} {cc : ByteArray} {nL : Nat} {rt : Option FieldType} {ini : Bool} {hh : List (Nat × Nat × Nat × Nat)} {d n0 w0 : Nat} {o : Out} {A A' : HP} {pc : Nat} {L : LV} {st : List Value}
theorem in_stk {i : Instr} {cst : Int32} {x : List Nat} {st' : List Value} (hd : decode cc pc = .ok (i, lenI i)) (hf : ∀ (B : Nat) (Hb : Heap) (CS : KT) (s : State), WD s → SF B Hb CS s → skF own B Hb CS s i cst x) (h : stkI i cst x st = some st') (K : Inn own cc nL rt ini hh d n0 w0 o A' (pc + lenI i) L st' A) : Inn own cc nL rt ini hh d n0 w0 o A' pc L st A := by
  intro p l e R s m args below meth c B Hb CS dC dI dA F hR hB H locs ls ms hr hlo hL hst
  obtain ⟨hx, hb, hml, hlk, hown, hrt, hini, hT, hs0, hlw, hC⟩ := id F
  obtain ⟨ms', h1, h2⟩ := sk_ok (p := p) (l := l) (e := e) (R := R) (s := s) (m := m) (args := args) (below := below) (meth := meth) (c := c) (H := H) (locs := locs) (cells := hn A - n0) (slots := hw A - w0) (Q := vx_MQ below (QO B Hb CS dC dI dA o A') (XO B Hb CS dC dI dA o A') args s (hn A' - n0) (hw A' - w0) (fun q => B ≤ q)) (ls := ls) hx hb hown hr.1 hr.2.2.2.1 hd (hf B Hb CS s hC.2.1 hC.2.2.2) h hst
  exact h2 (K p l e R s m args below meth c B Hb CS dC dI dA F hR hB H locs ls ms' hr hlo hL h1)
theorem in_gstJ {ix : Nat} (hd : decode cc pc = .ok (.getstatic ix, 3)) (hl : Jvm.Cond.fieldLink own ix "jdk/internal/util/Preconditions" "SIOOBE_FORMATTER" "Ljava/util/function/BiFunction;" ∈ lw_tb) (K0 : Inn own cc nL rt ini hh d n0 w0 o A' (pc + 3) L (.null :: st) A) (K1 : Inn own cc nL rt ini hh d n0 w0 o A' (pc + 3) L (.ref (BIG + 21) :: st) A) : Inn own cc nL rt ini hh d n0 w0 o A' pc L st A := by
  intro p l e R s m args below meth c B Hb CS dC dI dA F hR hB H locs ls ms hr hlo hL hst
  obtain ⟨hx, hb, hml, hlk, hown, hrt, hini, hT, hs0, hlw, hC⟩ := id F
  have hlow := hr.2.2.2.1
  have hHb := hr.1
  rcases hC.2.2.2.2.2.2.2.1.2 with ⟨cf, kf, fi, f, a, ce0, h1, h2, h3, h4, h5, h6, h7, h8⟩ | ⟨cf, kf, fi, f, a, ce0, h1, h2, h3, h4, h5, h6, h7, h8⟩
  · have ha := (Array.getElem?_eq_some_iff.mp h5).1
    exact W.gets hx hb hown (hC.2.1 _ hl rfl args) h1 h2 h3 h4 (by rw [hlow a (by omega)]; exact h5) (fun e => by rw [e] at h6; cases h6) h7 rfl hd (K0 p l e R s m args below meth c B Hb CS dC dI dA F hR hB H locs ls (.null :: ms) hr hlo hL ⟨_, _, rfl, rfl, hst⟩)
  · have ha := (Array.getElem?_eq_some_iff.mp h5).1
    exact W.gets hx hb hown (hC.2.1 _ hl rfl args) h1 h2 h3 h4 (by rw [hlow a (by omega)]; exact h5) (fun e => by rw [e] at h6; cases h6) h7 rfl hd (K1 p l e R s m args below meth c B Hb CS dC dI dA F hR hB H locs ls (.ref (CS.1 21) :: ms) hr hlo hL ⟨_, _, rfl, (by show _ = Value.ref (adr B CS (BIG + 21)); rw [adr_big]), hst⟩)
theorem in_iload {k : Nat} {v : Int32} (hd : decode cc pc = .ok (.iload k, 2)) (h : nth L k = some (some (.int v))) (K : Inn own cc nL rt ini hh d n0 w0 o A' (pc + 2) L (.int v :: st) A) : Inn own cc nL rt ini hh d n0 w0 o A' pc L st A := by
  intro p l e R s m args below meth c B Hb CS dC dI dA F hR hB H locs ls ms hr hlo hL hst
  obtain ⟨hx, hb, hml, hlk, hown, hrt, hini, hT, hs0, hlw, hC⟩ := id F
  obtain ⟨mv, h1, h2⟩ := hL.get h
  exact lv_iload hx hb hd (by rw [h1, show mv = _ from h2]; rfl) (K p l e R s m args below meth c B Hb CS dC dI dA F hR hB H locs ls (_ :: ms) hr hlo hL (stR.cons rfl hst))
theorem in_iload_n {k : Fin 4} {v : Int32} (hd : decode cc pc = .ok (.iload_n k, 1)) (h : nth L (k : Nat) = some (some (.int v))) (K : Inn own cc nL rt ini hh d n0 w0 o A' (pc + 1) L (.int v :: st) A) : Inn own cc nL rt ini hh d n0 w0 o A' pc L st A := by
  intro p l e R s m args below meth c B Hb CS dC dI dA F hR hB H locs ls ms hr hlo hL hst
  obtain ⟨hx, hb, hml, hlk, hown, hrt, hini, hT, hs0, hlw, hC⟩ := id F
  obtain ⟨mv, h1, h2⟩ := hL.get h
  exact lv_iload_n hx hb hd rfl (by rw [h1, show mv = _ from h2]; rfl) (K p l e R s m args below meth c B Hb CS dC dI dA F hR hB H locs ls (_ :: ms) hr hlo hL (stR.cons rfl hst))
theorem in_lload {k : Nat} {v : Int64} (hd : decode cc pc = .ok (.lload k, 2)) (h : nth L k = some (some (.long v))) (K : Inn own cc nL rt ini hh d n0 w0 o A' (pc + 2) L (.long v :: st) A) : Inn own cc nL rt ini hh d n0 w0 o A' pc L st A := by
  intro p l e R s m args below meth c B Hb CS dC dI dA F hR hB H locs ls ms hr hlo hL hst
  obtain ⟨hx, hb, hml, hlk, hown, hrt, hini, hT, hs0, hlw, hC⟩ := id F
  obtain ⟨mv, h1, h2⟩ := hL.get h
  exact lv_lload hx hb hd (by rw [h1, show mv = _ from h2]; rfl) (K p l e R s m args below meth c B Hb CS dC dI dA F hR hB H locs ls (_ :: ms) hr hlo hL (stR.cons rfl hst))
theorem in_lload_n {k : Fin 4} {v : Int64} (hd : decode cc pc = .ok (.lload_n k, 1)) (h : nth L (k : Nat) = some (some (.long v))) (K : Inn own cc nL rt ini hh d n0 w0 o A' (pc + 1) L (.long v :: st) A) : Inn own cc nL rt ini hh d n0 w0 o A' pc L st A := by
  intro p l e R s m args below meth c B Hb CS dC dI dA F hR hB H locs ls ms hr hlo hL hst
  obtain ⟨hx, hb, hml, hlk, hown, hrt, hini, hT, hs0, hlw, hC⟩ := id F
  obtain ⟨mv, h1, h2⟩ := hL.get h
  exact lv_lload_n hx hb hd rfl (by rw [h1, show mv = _ from h2]; rfl) (K p l e R s m args below meth c B Hb CS dC dI dA F hR hB H locs ls (_ :: ms) hr hlo hL (stR.cons rfl hst))
theorem in_aload {k : Nat} {v : Nat} (hd : decode cc pc = .ok (.aload k, 2)) (h : nth L k = some (some (.ref v))) (K : Inn own cc nL rt ini hh d n0 w0 o A' (pc + 2) L (.ref v :: st) A) : Inn own cc nL rt ini hh d n0 w0 o A' pc L st A := by
  intro p l e R s m args below meth c B Hb CS dC dI dA F hR hB H locs ls ms hr hlo hL hst
  obtain ⟨hx, hb, hml, hlk, hown, hrt, hini, hT, hs0, hlw, hC⟩ := id F
  obtain ⟨mv, h1, h2⟩ := hL.get h
  exact lv_aload hx hb hd (by rw [h1, show mv = _ from h2]; rfl) (K p l e R s m args below meth c B Hb CS dC dI dA F hR hB H locs ls (_ :: ms) hr hlo hL (stR.cons rfl hst))
theorem in_aloadN {k : Nat} (hd : decode cc pc = .ok (.aload k, 2)) (h : nth L k = some (some .null)) (K : Inn own cc nL rt ini hh d n0 w0 o A' (pc + 2) L (.null :: st) A) : Inn own cc nL rt ini hh d n0 w0 o A' pc L st A := by
  intro p l e R s m args below meth c B Hb CS dC dI dA F hR hB H locs ls ms hr hlo hL hst
  obtain ⟨hx, hb, hml, hlk, hown, hrt, hini, hT, hs0, hlw, hC⟩ := id F
  obtain ⟨mv, h1, h2⟩ := hL.get h
  exact lv_aloadN hx hb hd (by rw [h1, show mv = _ from h2]; rfl) (K p l e R s m args below meth c B Hb CS dC dI dA F hR hB H locs ls (_ :: ms) hr hlo hL (stR.cons rfl hst))
theorem in_aload_n {k : Fin 4} {v : Nat} (hd : decode cc pc = .ok (.aload_n k, 1)) (h : nth L (k : Nat) = some (some (.ref v))) (K : Inn own cc nL rt ini hh d n0 w0 o A' (pc + 1) L (.ref v :: st) A) : Inn own cc nL rt ini hh d n0 w0 o A' pc L st A := by
  intro p l e R s m args below meth c B Hb CS dC dI dA F hR hB H locs ls ms hr hlo hL hst
  obtain ⟨hx, hb, hml, hlk, hown, hrt, hini, hT, hs0, hlw, hC⟩ := id F
  obtain ⟨mv, h1, h2⟩ := hL.get h
  exact lv_aload_n hx hb hd rfl (by rw [h1, show mv = _ from h2]; rfl) (K p l e R s m args below meth c B Hb CS dC dI dA F hR hB H locs ls (_ :: ms) hr hlo hL (stR.cons rfl hst))
theorem in_aload_nN {k : Fin 4} (hd : decode cc pc = .ok (.aload_n k, 1)) (h : nth L (k : Nat) = some (some .null)) (K : Inn own cc nL rt ini hh d n0 w0 o A' (pc + 1) L (.null :: st) A) : Inn own cc nL rt ini hh d n0 w0 o A' pc L st A := by
  intro p l e R s m args below meth c B Hb CS dC dI dA F hR hB H locs ls ms hr hlo hL hst
  obtain ⟨hx, hb, hml, hlk, hown, hrt, hini, hT, hs0, hlw, hC⟩ := id F
  obtain ⟨mv, h1, h2⟩ := hL.get h
  exact lv_aload_nN hx hb hd rfl (by rw [h1, show mv = _ from h2]; rfl) (K p l e R s m args below meth c B Hb CS dC dI dA F hR hB H locs ls (_ :: ms) hr hlo hL (stR.cons rfl hst))
theorem in_dload {k : Nat} {v : UInt64} (hd : decode cc pc = .ok (.dload k, 2)) (h : nth L k = some (some (.double v))) (K : Inn own cc nL rt ini hh d n0 w0 o A' (pc + 2) L (.double v :: st) A) : Inn own cc nL rt ini hh d n0 w0 o A' pc L st A := by
  intro p l e R s m args below meth c B Hb CS dC dI dA F hR hB H locs ls ms hr hlo hL hst
  obtain ⟨hx, hb, hml, hlk, hown, hrt, hini, hT, hs0, hlw, hC⟩ := id F
  obtain ⟨mv, h1, h2⟩ := hL.get h
  exact lv_dload hx hb hd (by rw [h1, show mv = _ from h2]; rfl) (K p l e R s m args below meth c B Hb CS dC dI dA F hR hB H locs ls (_ :: ms) hr hlo hL (stR.cons rfl hst))
theorem in_fload {k : Nat} {v : UInt32} (hd : decode cc pc = .ok (.fload k, 2)) (h : nth L k = some (some (.float v))) (K : Inn own cc nL rt ini hh d n0 w0 o A' (pc + 2) L (.float v :: st) A) : Inn own cc nL rt ini hh d n0 w0 o A' pc L st A := by
  intro p l e R s m args below meth c B Hb CS dC dI dA F hR hB H locs ls ms hr hlo hL hst
  obtain ⟨hx, hb, hml, hlk, hown, hrt, hini, hT, hs0, hlw, hC⟩ := id F
  obtain ⟨mv, h1, h2⟩ := hL.get h
  exact lv_fload hx hb hd (by rw [h1, show mv = _ from h2]; rfl) (K p l e R s m args below meth c B Hb CS dC dI dA F hR hB H locs ls (_ :: ms) hr hlo hL (stR.cons rfl hst))
theorem in_istore {k : Nat} {v : Int32} (hd : decode cc pc = .ok (.istore k, 2)) (hk : k < nL) (hok : okS L k = true) (K : Inn own cc nL rt ini hh d n0 w0 o A' (pc + 2) (L.set k (some (.int v))) st A) : Inn own cc nL rt ini hh d n0 w0 o A' pc L (.int v :: st) A := by
  intro p l e R s m args below meth c B Hb CS dC dI dA F hR hB H locs ls ms hr hlo hL hst
  obtain ⟨hx, hb, hml, hlk, hown, hrt, hini, hT, hs0, hlw, hC⟩ := id F
  obtain ⟨mv, r, rfl, h1, hst⟩ := hst
  cases (show mv = _ from h1)
  obtain ⟨lv, hl1, hl2⟩ := hL
  exact lv_istore hx hb hd hl1 hk rfl (fun ls' hl' => (K p l e R s m args below meth c B Hb CS dC dI dA F hR hB H locs ls' r hr hlo (lR.set1 hl2 hok rfl hl') hst))
theorem in_istore_n {k : Fin 4} {v : Int32} (hd : decode cc pc = .ok (.istore_n k, 1)) (hk : (k : Nat) < nL) (hok : okS L (k : Nat) = true) (K : Inn own cc nL rt ini hh d n0 w0 o A' (pc + 1) (L.set (k : Nat) (some (.int v))) st A) : Inn own cc nL rt ini hh d n0 w0 o A' pc L (.int v :: st) A := by
  intro p l e R s m args below meth c B Hb CS dC dI dA F hR hB H locs ls ms hr hlo hL hst
  obtain ⟨hx, hb, hml, hlk, hown, hrt, hini, hT, hs0, hlw, hC⟩ := id F
  obtain ⟨mv, r, rfl, h1, hst⟩ := hst
  cases (show mv = _ from h1)
  obtain ⟨lv, hl1, hl2⟩ := hL
  exact lv_istore_n hx hb hd rfl hl1 hk rfl (fun ls' hl' => (K p l e R s m args below meth c B Hb CS dC dI dA F hR hB H locs ls' r hr hlo (lR.set1 hl2 hok rfl hl') hst))
theorem in_astore {k : Nat} {v : Nat} (hd : decode cc pc = .ok (.astore k, 2)) (hk : k < nL) (hok : okS L k = true) (K : Inn own cc nL rt ini hh d n0 w0 o A' (pc + 2) (L.set k (some (.ref v))) st A) : Inn own cc nL rt ini hh d n0 w0 o A' pc L (.ref v :: st) A := by
  intro p l e R s m args below meth c B Hb CS dC dI dA F hR hB H locs ls ms hr hlo hL hst
  obtain ⟨hx, hb, hml, hlk, hown, hrt, hini, hT, hs0, hlw, hC⟩ := id F
  obtain ⟨mv, r, rfl, h1, hst⟩ := hst
  cases (show mv = _ from h1)
  obtain ⟨lv, hl1, hl2⟩ := hL
  exact lv_astore hx hb hd hl1 hk rfl (fun ls' hl' => (K p l e R s m args below meth c B Hb CS dC dI dA F hR hB H locs ls' r hr hlo (lR.set1 hl2 hok rfl hl') hst))
theorem in_astoreJ {k : Nat} {v : Nat} (hd : decode cc pc = .ok (.astore k, 2)) (hk : k < nL) (hok : okS L k = true) (K : Inn own cc nL rt ini hh d n0 w0 o A' (pc + 2) (L.set k none) st A) : Inn own cc nL rt ini hh d n0 w0 o A' pc L (.retAddr v :: st) A := by
  intro p l e R s m args below meth c B Hb CS dC dI dA F hR hB H locs ls ms hr hlo hL hst
  obtain ⟨hx, hb, hml, hlk, hown, hrt, hini, hT, hs0, hlw, hC⟩ := id F
  obtain ⟨mv, r, rfl, ⟨q, rfl⟩, hst⟩ := hst
  obtain ⟨lv, hl1, hl2⟩ := hL
  exact lv_astore hx hb hd hl1 hk rfl (fun ls' hl' => (K p l e R s m args below meth c B Hb CS dC dI dA F hR hB H locs ls' r hr hlo (lR.none1 hl2 hok hl') hst))
theorem in_astore_n {k : Fin 4} {v : Nat} (hd : decode cc pc = .ok (.astore_n k, 1)) (hk : (k : Nat) < nL) (hok : okS L (k : Nat) = true) (K : Inn own cc nL rt ini hh d n0 w0 o A' (pc + 1) (L.set (k : Nat) (some (.ref v))) st A) : Inn own cc nL rt ini hh d n0 w0 o A' pc L (.ref v :: st) A := by
  intro p l e R s m args below meth c B Hb CS dC dI dA F hR hB H locs ls ms hr hlo hL hst
  obtain ⟨hx, hb, hml, hlk, hown, hrt, hini, hT, hs0, hlw, hC⟩ := id F
  obtain ⟨mv, r, rfl, h1, hst⟩ := hst
  cases (show mv = _ from h1)
  obtain ⟨lv, hl1, hl2⟩ := hL
  exact lv_astore_n hx hb hd rfl hl1 hk rfl (fun ls' hl' => (K p l e R s m args below meth c B Hb CS dC dI dA F hR hB H locs ls' r hr hlo (lR.set1 hl2 hok rfl hl') hst))
theorem in_astore_nJ {k : Fin 4} {v : Nat} (hd : decode cc pc = .ok (.astore_n k, 1)) (hk : (k : Nat) < nL) (hok : okS L (k : Nat) = true) (K : Inn own cc nL rt ini hh d n0 w0 o A' (pc + 1) (L.set (k : Nat) none) st A) : Inn own cc nL rt ini hh d n0 w0 o A' pc L (.retAddr v :: st) A := by
  intro p l e R s m args below meth c B Hb CS dC dI dA F hR hB H locs ls ms hr hlo hL hst
  obtain ⟨hx, hb, hml, hlk, hown, hrt, hini, hT, hs0, hlw, hC⟩ := id F
  obtain ⟨mv, r, rfl, ⟨q, rfl⟩, hst⟩ := hst
  obtain ⟨lv, hl1, hl2⟩ := hL
  exact lv_astore_n hx hb hd rfl hl1 hk rfl (fun ls' hl' => (K p l e R s m args below meth c B Hb CS dC dI dA F hR hB H locs ls' r hr hlo (lR.none1 hl2 hok hl') hst))
theorem in_lstore {k : Nat} {v : Int64} (hd : decode cc pc = .ok (.lstore k, 2)) (hk : k + 1 < nL) (hok : okS L k = true) (K : Inn own cc nL rt ini hh d n0 w0 o A' (pc + 2) ((L.set k (some (.long v))).set (k + 1) none) st A) : Inn own cc nL rt ini hh d n0 w0 o A' pc L (.long v :: st) A := by
  intro p l e R s m args below meth c B Hb CS dC dI dA F hR hB H locs ls ms hr hlo hL hst
  obtain ⟨hx, hb, hml, hlk, hown, hrt, hini, hT, hs0, hlw, hC⟩ := id F
  obtain ⟨mv, r, rfl, h1, hst⟩ := hst
  cases (show mv = _ from h1)
  obtain ⟨lv, hl1, hl2⟩ := hL
  exact lv_lstore hx hb hd hl1 hk rfl (fun ls' hl' => (K p l e R s m args below meth c B Hb CS dC dI dA F hR hB H locs ls' r hr hlo (lR.set2 hl2 hok rfl hl') hst))
theorem in_lstore_n {k : Fin 4} {v : Int64} (hd : decode cc pc = .ok (.lstore_n k, 1)) (hk : (k : Nat) + 1 < nL) (hok : okS L (k : Nat) = true) (K : Inn own cc nL rt ini hh d n0 w0 o A' (pc + 1) ((L.set (k : Nat) (some (.long v))).set ((k : Nat) + 1) none) st A) : Inn own cc nL rt ini hh d n0 w0 o A' pc L (.long v :: st) A := by
  intro p l e R s m args below meth c B Hb CS dC dI dA F hR hB H locs ls ms hr hlo hL hst
  obtain ⟨hx, hb, hml, hlk, hown, hrt, hini, hT, hs0, hlw, hC⟩ := id F
  obtain ⟨mv, r, rfl, h1, hst⟩ := hst
  cases (show mv = _ from h1)
  obtain ⟨lv, hl1, hl2⟩ := hL
  exact lv_lstore_n hx hb hd rfl hl1 hk rfl (fun ls' hl' => (K p l e R s m args below meth c B Hb CS dC dI dA F hR hB H locs ls' r hr hlo (lR.set2 hl2 hok rfl hl') hst))
theorem in_fstore {k : Nat} {v : UInt32} (hd : decode cc pc = .ok (.fstore k, 2)) (hk : k < nL) (hok : okS L k = true) (K : Inn own cc nL rt ini hh d n0 w0 o A' (pc + 2) (L.set k (some (.float v))) st A) : Inn own cc nL rt ini hh d n0 w0 o A' pc L (.float v :: st) A := by
  intro p l e R s m args below meth c B Hb CS dC dI dA F hR hB H locs ls ms hr hlo hL hst
  obtain ⟨hx, hb, hml, hlk, hown, hrt, hini, hT, hs0, hlw, hC⟩ := id F
  obtain ⟨mv, r, rfl, h1, hst⟩ := hst
  cases (show mv = _ from h1)
  obtain ⟨lv, hl1, hl2⟩ := hL
  exact lv_fstore hx hb hd hl1 hk rfl (fun ls' hl' => (K p l e R s m args below meth c B Hb CS dC dI dA F hR hB H locs ls' r hr hlo (lR.set1 hl2 hok rfl hl') hst))
theorem in_dstore {k : Nat} {v : UInt64} (hd : decode cc pc = .ok (.dstore k, 2)) (hk : k + 1 < nL) (hok : okS L k = true) (K : Inn own cc nL rt ini hh d n0 w0 o A' (pc + 2) ((L.set k (some (.double v))).set (k + 1) none) st A) : Inn own cc nL rt ini hh d n0 w0 o A' pc L (.double v :: st) A := by
  intro p l e R s m args below meth c B Hb CS dC dI dA F hR hB H locs ls ms hr hlo hL hst
  obtain ⟨hx, hb, hml, hlk, hown, hrt, hini, hT, hs0, hlw, hC⟩ := id F
  obtain ⟨mv, r, rfl, h1, hst⟩ := hst
  cases (show mv = _ from h1)
  obtain ⟨lv, hl1, hl2⟩ := hL
  exact lv_dstore hx hb hd hl1 hk rfl (fun ls' hl' => (K p l e R s m args below meth c B Hb CS dC dI dA F hR hB H locs ls' r hr hlo (lR.set2 hl2 hok rfl hl') hst))
theorem in_iinc {k : Nat} {n : Int} {v cst : Int32} (hd : decode cc pc = .ok (.iinc k n, 3)) (hc : Int32.ofInt n = cst) (hk : k < nL) (hok : okS L k = true) (h : nth L k = some (some (.int v))) (K : Inn own cc nL rt ini hh d n0 w0 o A' (pc + 3) (L.set k (some (.int (v + cst)))) st A) : Inn own cc nL rt ini hh d n0 w0 o A' pc L st A := by
  intro p l e R s m args below meth c B Hb CS dC dI dA F hR hB H locs ls ms hr hlo hL hst
  obtain ⟨hx, hb, hml, hlk, hown, hrt, hini, hT, hs0, hlw, hC⟩ := id F
  obtain ⟨lv, hl1, hl2⟩ := hL
  obtain ⟨mv, h1, h2⟩ := hl2 k _ h
  cases (show mv = _ from h2)
  obtain ⟨j, hj⟩ := List.getElem?_of_mem h1
  exact lv_iinc hx hb hd hl1 hj (by rw [hc]) hk rfl (fun ls' hl' => (K p l e R s m args below meth c B Hb CS dC dI dA F hR hB H locs ls' ms hr hlo (lR.set1 hl2 hok rfl hl') hst))
theorem in_goto {off : Int} {t : Nat} (hd : decode cc pc = .ok (.goto off, 3)) (ht : (pc : Int) + off = (t : Int)) (K : Inn own cc nL rt ini hh d n0 w0 o A' t L st A) : Inn own cc nL rt ini hh d n0 w0 o A' pc L st A := by
  intro p l e R s m args below meth c B Hb CS dC dI dA F hR hB H locs ls ms hr hlo hL hst
  obtain ⟨hx, hb, hml, hlk, hown, hrt, hini, hT, hs0, hlw, hC⟩ := id F
  exact lv_goto hx hb hd ht (K p l e R s m args below meth c B Hb CS dC dI dA F hR hB H locs ls ms hr hlo hL hst)
theorem in_if {cd : ClassFile.Cond} {off : Int} {t : Nat} {v : Int32} (hd : decode cc pc = .ok (.ifCond cd off, 3)) (ht : (pc : Int) + off = (t : Int)) (K1 : cmpP cd v 0 → Inn own cc nL rt ini hh d n0 w0 o A' t L st A) (K2 : ¬ cmpP cd v 0 → Inn own cc nL rt ini hh d n0 w0 o A' (pc + 3) L st A) : Inn own cc nL rt ini hh d n0 w0 o A' pc L (.int v :: st) A := by
  intro p l e R s m args below meth c B Hb CS dC dI dA F hR hB H locs ls ms hr hlo hL hst
  obtain ⟨hx, hb, hml, hlk, hown, hrt, hini, hT, hs0, hlw, hC⟩ := id F
  obtain ⟨mv, r, rfl, h1, hst⟩ := hst
  cases (show mv = _ from h1)
  cases cd with
  | eq => exact lv_if_eq hx hb hd ht (fun q => (K1 q p l e R s m args below meth c B Hb CS dC dI dA F hR hB H locs ls r hr hlo hL hst)) (fun q => (K2 q p l e R s m args below meth c B Hb CS dC dI dA F hR hB H locs ls r hr hlo hL hst))
  | ne => exact lv_if_ne hx hb hd ht (fun q => (K1 q p l e R s m args below meth c B Hb CS dC dI dA F hR hB H locs ls r hr hlo hL hst)) (fun q => (K2 (fun z => z q) p l e R s m args below meth c B Hb CS dC dI dA F hR hB H locs ls r hr hlo hL hst))
  | lt => exact lv_if_lt hx hb hd ht (fun q => (K1 q p l e R s m args below meth c B Hb CS dC dI dA F hR hB H locs ls r hr hlo hL hst)) (fun q => (K2 q p l e R s m args below meth c B Hb CS dC dI dA F hR hB H locs ls r hr hlo hL hst))
  | ge => exact lv_if_ge hx hb hd ht (fun q => (K1 q p l e R s m args below meth c B Hb CS dC dI dA F hR hB H locs ls r hr hlo hL hst)) (fun q => (K2 q p l e R s m args below meth c B Hb CS dC dI dA F hR hB H locs ls r hr hlo hL hst))
  | gt => exact lv_if_gt hx hb hd ht (fun q => (K1 q p l e R s m args below meth c B Hb CS dC dI dA F hR hB H locs ls r hr hlo hL hst)) (fun q => (K2 q p l e R s m args below meth c B Hb CS dC dI dA F hR hB H locs ls r hr hlo hL hst))
  | le => exact lv_if_le hx hb hd ht (fun q => (K1 q p l e R s m args below meth c B Hb CS dC dI dA F hR hB H locs ls r hr hlo hL hst)) (fun q => (K2 q p l e R s m args below meth c B Hb CS dC dI dA F hR hB H locs ls r hr hlo hL hst))
theorem in_icmp {cd : ClassFile.Cond} {off : Int} {t : Nat} {v w : Int32} (hd : decode cc pc = .ok (.if_icmp cd off, 3)) (ht : (pc : Int) + off = (t : Int)) (K1 : cmpP cd v w → Inn own cc nL rt ini hh d n0 w0 o A' t L st A) (K2 : ¬ cmpP cd v w → Inn own cc nL rt ini hh d n0 w0 o A' (pc + 3) L st A) : Inn own cc nL rt ini hh d n0 w0 o A' pc L (.int w :: .int v :: st) A := by
  intro p l e R s m args below meth c B Hb CS dC dI dA F hR hB H locs ls ms hr hlo hL hst
  obtain ⟨hx, hb, hml, hlk, hown, hrt, hini, hT, hs0, hlw, hC⟩ := id F
  obtain ⟨mv, r, rfl, h1, mw, r2, rfl, h2, hst⟩ := hst
  cases (show mv = _ from h1)
  cases (show mw = _ from h2)
  cases cd with
  | eq => exact lv_icmp_eq hx hb hd ht (fun q => (K1 q p l e R s m args below meth c B Hb CS dC dI dA F hR hB H locs ls r2 hr hlo hL hst)) (fun q => (K2 q p l e R s m args below meth c B Hb CS dC dI dA F hR hB H locs ls r2 hr hlo hL hst))
  | ne => exact lv_icmp_ne hx hb hd ht (fun q => (K1 q p l e R s m args below meth c B Hb CS dC dI dA F hR hB H locs ls r2 hr hlo hL hst)) (fun q => (K2 (fun z => z q) p l e R s m args below meth c B Hb CS dC dI dA F hR hB H locs ls r2 hr hlo hL hst))
  | lt => exact lv_icmp_lt hx hb hd ht (fun q => (K1 q p l e R s m args below meth c B Hb CS dC dI dA F hR hB H locs ls r2 hr hlo hL hst)) (fun q => (K2 q p l e R s m args below meth c B Hb CS dC dI dA F hR hB H locs ls r2 hr hlo hL hst))
  | ge => exact lv_icmp_ge hx hb hd ht (fun q => (K1 q p l e R s m args below meth c B Hb CS dC dI dA F hR hB H locs ls r2 hr hlo hL hst)) (fun q => (K2 q p l e R s m args below meth c B Hb CS dC dI dA F hR hB H locs ls r2 hr hlo hL hst))
  | gt => exact lv_icmp_gt hx hb hd ht (fun q => (K1 q p l e R s m args below meth c B Hb CS dC dI dA F hR hB H locs ls r2 hr hlo hL hst)) (fun q => (K2 q p l e R s m args below meth c B Hb CS dC dI dA F hR hB H locs ls r2 hr hlo hL hst))
  | le => exact lv_icmp_le hx hb hd ht (fun q => (K1 q p l e R s m args below meth c B Hb CS dC dI dA F hR hB H locs ls r2 hr hlo hL hst)) (fun q => (K2 q p l e R s m args below meth c B Hb CS dC dI dA F hR hB H locs ls r2 hr hlo hL hst))
theorem in_nonnull {off : Int} {t a : Nat} (hd : decode cc pc = .ok (.ifnonnull off, 3)) (ht : (pc : Int) + off = (t : Int)) (K : Inn own cc nL rt ini hh d n0 w0 o A' t L st A) : Inn own cc nL rt ini hh d n0 w0 o A' pc L (.ref a :: st) A := by
  intro p l e R s m args below meth c B Hb CS dC dI dA F hR hB H locs ls ms hr hlo hL hst
  obtain ⟨hx, hb, hml, hlk, hown, hrt, hini, hT, hs0, hlw, hC⟩ := id F
  obtain ⟨mv, r, rfl, h1, hst⟩ := hst
  cases (show mv = _ from h1)
  exact lv_ifnonnull hx hb hd ht (K p l e R s m args below meth c B Hb CS dC dI dA F hR hB H locs ls r hr hlo hL hst)
theorem in_null {off : Int} (hd : decode cc pc = .ok (.ifnonnull off, 3)) (K : Inn own cc nL rt ini hh d n0 w0 o A' (pc + 3) L st A) : Inn own cc nL rt ini hh d n0 w0 o A' pc L (.null :: st) A := by
  intro p l e R s m args below meth c B Hb CS dC dI dA F hR hB H locs ls ms hr hlo hL hst
  obtain ⟨hx, hb, hml, hlk, hown, hrt, hini, hT, hs0, hlw, hC⟩ := id F
  obtain ⟨mv, r, rfl, h1, hst⟩ := hst
  cases (show mv = _ from h1)
  exact lv_ifnonnullN hx hb hd (K p l e R s m args below meth c B Hb CS dC dI dA F hR hB H locs ls r hr hlo hL hst)
theorem in_idiv {v w : Int32} (hd : decode cc pc = .ok (.idiv, 1)) (hne : ¬ w = 0) (K : Inn own cc nL rt ini hh d n0 w0 o A' (pc + 1) L (.int (v / w) :: st) A) : Inn own cc nL rt ini hh d n0 w0 o A' pc L (.int w :: .int v :: st) A := by
  intro p l e R s m args below meth c B Hb CS dC dI dA F hR hB H locs ls ms hr hlo hL hst
  obtain ⟨hx, hb, hml, hlk, hown, hrt, hini, hT, hs0, hlw, hC⟩ := id F
  obtain ⟨mv, r, rfl, h1, mw, r2, rfl, h2, hst⟩ := hst
  cases (show mv = _ from h1)
  cases (show mw = _ from h2)
  exact lv_idiv hx hb hd hne (K p l e R s m args below meth c B Hb CS dC dI dA F hR hB H locs ls (_ :: r2) hr hlo hL (stR.cons rfl hst))
theorem in_irem {v w : Int32} (hd : decode cc pc = .ok (.irem, 1)) (hne : ¬ w = 0) (K : Inn own cc nL rt ini hh d n0 w0 o A' (pc + 1) L (.int (v - v / w * w) :: st) A) : Inn own cc nL rt ini hh d n0 w0 o A' pc L (.int w :: .int v :: st) A := by
  intro p l e R s m args below meth c B Hb CS dC dI dA F hR hB H locs ls ms hr hlo hL hst
  obtain ⟨hx, hb, hml, hlk, hown, hrt, hini, hT, hs0, hlw, hC⟩ := id F
  obtain ⟨mv, r, rfl, h1, mw, r2, rfl, h2, hst⟩ := hst
  cases (show mv = _ from h1)
  cases (show mw = _ from h2)
  exact lv_irem hx hb hd hne (K p l e R s m args below meth c B Hb CS dC dI dA F hR hB H locs ls (_ :: r2) hr hlo hL (stR.cons rfl hst))
theorem in_ddiv {v w : UInt64} (hd : decode cc pc = .ok (.ddiv, 1)) (hne : vf_n64 (FP.ddiv v w)) (K : Inn own cc nL rt ini hh d n0 w0 o A' (pc + 1) L (.double (FP.ddiv v w) :: st) A) : Inn own cc nL rt ini hh d n0 w0 o A' pc L (.double w :: .double v :: st) A := by
  intro p l e R s m args below meth c B Hb CS dC dI dA F hR hB H locs ls ms hr hlo hL hst
  obtain ⟨hx, hb, hml, hlk, hown, hrt, hini, hT, hs0, hlw, hC⟩ := id F
  obtain ⟨mv, r, rfl, h1, mw, r2, rfl, h2, hst⟩ := hst
  cases (show mv = _ from h1)
  cases (show mw = _ from h2)
  exact lv_ddiv hx hb hd hne (K p l e R s m args below meth c B Hb CS dC dI dA F hR hB H locs ls (_ :: r2) hr hlo hL (stR.cons rfl hst))
theorem in_fdiv {v w : UInt32} (hd : decode cc pc = .ok (.fdiv, 1)) (hne : vf_n32 (FP.fdiv v w)) (K : Inn own cc nL rt ini hh d n0 w0 o A' (pc + 1) L (.float (FP.fdiv v w) :: st) A) : Inn own cc nL rt ini hh d n0 w0 o A' pc L (.float w :: .float v :: st) A := by
  intro p l e R s m args below meth c B Hb CS dC dI dA F hR hB H locs ls ms hr hlo hL hst
  obtain ⟨hx, hb, hml, hlk, hown, hrt, hini, hT, hs0, hlw, hC⟩ := id F
  obtain ⟨mv, r, rfl, h1, mw, r2, rfl, h2, hst⟩ := hst
  cases (show mv = _ from h1)
  cases (show mw = _ from h2)
  exact lv_fdiv hx hb hd hne (K p l e R s m args below meth c B Hb CS dC dI dA F hR hB H locs ls (_ :: r2) hr hlo hL (stR.cons rfl hst))
theorem in_f2d {v : UInt32} (hd : decode cc pc = .ok (.f2d, 1)) (hne : vf_n64 (FP.f2d v)) (K : Inn own cc nL rt ini hh d n0 w0 o A' (pc + 1) L (.double (FP.f2d v) :: st) A) : Inn own cc nL rt ini hh d n0 w0 o A' pc L (.float v :: st) A := by
  intro p l e R s m args below meth c B Hb CS dC dI dA F hR hB H locs ls ms hr hlo hL hst
  obtain ⟨hx, hb, hml, hlk, hown, hrt, hini, hT, hs0, hlw, hC⟩ := id F
  obtain ⟨mv, r, rfl, h1, hst⟩ := hst
  cases (show mv = _ from h1)
  exact lv_f2d hx hb hd hne (K p l e R s m args below meth c B Hb CS dC dI dA F hR hB H locs ls (_ :: r) hr hlo hL (stR.cons rfl hst))
end IN
