/-! the start: what the tables and the premises give, as the small machine's first heap -/
def stK (k : Nat) : String × Nat := match k with
  | 0 => ("LintelBrothers", 285)
  | 1 => ("LintelBrothersLaw", 192)
  | 2 => ("LintelBrothersLaw", 197)
  | 3 => ("LintelBrothersLaw", 199)
  | 4 => ("LintelBrothersLaw", 205)
  | 5 => ("LintelBrothersLaw", 207)
  | 6 => ("LintelBrothersLaw", 226)
  | 7 => ("LintelBrothersLaw", 231)
  | _ => ("LintelBrothersLaw", 231)
def stB (k : Nat) : List Int32 := match k with
  | 0 => [46, 46]
  | 1 => [91]
  | 2 => []
  | 3 => [46, 46]
  | 4 => [93]
  | 5 => [42]
  | 6 => [58]
  | 7 => [43]
  | _ => [43]
def tmS (k : Nat) : Jvm.Term := .string (stK k).1 (stK k).2
def tmV (k : Nat) : Jvm.Term := .field (tmS k) "java/lang/String" "value" "[B"
def tmD (n : String) : Jvm.Term := .static "java/lang/Integer" n "[B"
def cF : List Jvm.Cond := flatC (Jvm.Cond.and given_1 narrow_1)
section
set_option maxRecDepth 100000
def sx (k : Nat) : Nat := match k with
  | 0 => 523
  | 1 => 894
  | 2 => 899
  | 3 => 903
  | 4 => 910
  | 5 => 915
  | 6 => 920
  | 7 => 925
  | _ => 925
theorem st_w1 : ∀ k, k < 9 → cF[sx k]? = some (Jvm.Cond.exactly (tmS k) "java/lang/String") ∧ cF[sx k + 1]? = some (Jvm.Cond.eq (.field (tmS k) "java/lang/String" "coder" "B") (.int 0)) ∧ cF[sx k + 2]? = some (Jvm.Cond.arrayOf (tmV k) .byte) ∧ cF[sx k + 3]? = some (Jvm.Cond.eq (.length (tmV k)) (.int (Int32.ofNat (stB k).length))) := by decide +kernel
theorem st_w : ∀ k, k < 9 → Jvm.Cond.exactly (tmS k) "java/lang/String" ∈ cF ∧ Jvm.Cond.eq (.field (tmS k) "java/lang/String" "coder" "B") (.int 0) ∈ cF ∧ Jvm.Cond.arrayOf (tmV k) .byte ∈ cF ∧ Jvm.Cond.eq (.length (tmV k)) (.int (Int32.ofNat (stB k).length)) ∈ cF := fun k hk => ⟨List.mem_of_getElem? (st_w1 k hk).1, List.mem_of_getElem? (st_w1 k hk).2.1, List.mem_of_getElem? (st_w1 k hk).2.2.1, List.mem_of_getElem? (st_w1 k hk).2.2.2⟩
theorem cut_in {α : Type} {l : List α} {i n : Nat} {f : Nat → α} (h : (l.drop i).take n = (List.range n).map f) {j : Nat} (hj : j < n) : f j ∈ l := List.mem_of_mem_drop (List.mem_of_mem_take (h ▸ List.mem_map.mpr ⟨j, List.mem_range.mpr hj, rfl⟩))
theorem st_e1 : ∀ k, k < 9 → (cF.drop (sx k + 4)).take (stB k).length = (List.range (stB k).length).map (fun j => Jvm.Cond.eq (.elem (tmV k) (.int (Int32.ofNat j))) (.int ((stB k).getD j 0))) := by decide +kernel
theorem st_e : ∀ k, k < 9 → ∀ j, j < (stB k).length → Jvm.Cond.eq (.elem (tmV k) (.int (Int32.ofNat j))) (.int ((stB k).getD j 0)) ∈ cF := fun k hk j hj => cut_in (st_e1 k hk) hj
theorem st_l : ∀ k, k < 9 → (stB k).length < 2 ^ 31 := by decide
theorem st_q : ∀ q ∈ strT, q.2.2.2 < 9 ∧ stK q.2.2.2 = (q.1, q.2.1) ∧ Jvm.Cond.stringRef q.1 q.2.1 q.2.2.1 ∈ lw_tb := by decide +kernel
theorem ms_q : ∀ q ∈ msgT, q.1 = "LintelBrothers" ∧ Jvm.Cond.stringRef q.1 q.2.1 q.2.2 ∈ lw_tb := by decide +kernel
theorem dg_w : Jvm.Cond.arrayOf (tmD "DigitTens") .byte ∈ cF ∧ Jvm.Cond.eq (.length (tmD "DigitTens")) (.int (Int32.ofNat 100)) ∈ cF ∧ Jvm.Cond.arrayOf (tmD "DigitOnes") .byte ∈ cF ∧ Jvm.Cond.eq (.length (tmD "DigitOnes")) (.int (Int32.ofNat 100)) ∈ cF := by decide +kernel
theorem dg_t1 : (cF.drop 117).take 100 = (List.range 100).map (fun j => Jvm.Cond.eq (.elem (tmD "DigitTens") (.int (Int32.ofNat j))) (.int (Int32.ofNat (48 + j / 10)))) := by decide +kernel
theorem dg_o1 : (cF.drop 14).take 100 = (List.range 100).map (fun j => Jvm.Cond.eq (.elem (tmD "DigitOnes") (.int (Int32.ofNat j))) (.int (Int32.ofNat (48 + j % 10)))) := by decide +kernel
theorem dg_t : ∀ j, j < 100 → Jvm.Cond.eq (.elem (tmD "DigitTens") (.int (Int32.ofNat j))) (.int (Int32.ofNat (48 + j / 10))) ∈ cF := fun j hj => cut_in dg_t1 hj
theorem dg_o : ∀ j, j < 100 → Jvm.Cond.eq (.elem (tmD "DigitOnes") (.int (Int32.ofNat j))) (.int (Int32.ofNat (48 + j % 10))) ∈ cF := fun j hj => cut_in dg_o1 hj
theorem ot_w : Jvm.Cond.eq (.static "java/lang/String" "COMPACT_STRINGS" "Z") (.int 1) ∈ cF ∧ Jvm.Cond.isRef (.static Bundle.tN "UNASSIGNED_STACK" Bundle.steD) ∈ cF ∧ Jvm.Cond.isRef (.static Bundle.tN "SUPPRESSED_SENTINEL" Bundle.listD) ∈ cF := by decide +kernel
theorem ot_t : Jvm.Cond.laysStatic "java/lang/String" "COMPACT_STRINGS" "Z" ∈ lw_tb ∧ Jvm.Cond.initialized "java/lang/String" ∈ lw_tb ∧ Jvm.Cond.laysStatic "java/lang/Integer" "DigitTens" "[B" ∈ lw_tb ∧ Jvm.Cond.laysStatic "java/lang/Integer" "DigitOnes" "[B" ∈ lw_tb ∧ Jvm.Cond.initialized "java/lang/Integer" ∈ lw_tb ∧ Jvm.Cond.laysStatic Bundle.tN "UNASSIGNED_STACK" Bundle.steD ∈ lw_tb ∧ Jvm.Cond.laysStatic Bundle.tN "SUPPRESSED_SENTINEL" Bundle.listD ∈ lw_tb ∧ Jvm.Cond.initialized Bundle.tN ∈ lw_tb := by decide +kernel
theorem sio_w : Jvm.Cond.isRef (.static "jdk/internal/util/Preconditions" "SIOOBE_FORMATTER" "Ljava/util/function/BiFunction;") ∈ cF := by decide +kernel
theorem sio_t : Jvm.Cond.laysStatic "jdk/internal/util/Preconditions" "SIOOBE_FORMATTER" "Ljava/util/function/BiFunction;" ∈ lw_tb ∧ Jvm.Cond.initialized "jdk/internal/util/Preconditions" ∈ lw_tb := by decide +kernel
theorem nc_w : ∀ a, a < 6 → ∀ b, b < 4 → a ≠ b → Jvm.Cond.not (.castable (exN a) (exN b)) ∈ cF := by decide +kernel
theorem wi_w : ∀ c, c < 12 → ∀ q ∈ wcl[c]?, Jvm.Cond.instantiable q.1 q.2.2 ∈ lw_tb := by decide +kernel
end
def kk0 (L : Nat) (j : Nat) : Nat × Nat := if j < 9 then (21, 0) else if j < 18 then (8, (stB (j - 9)).length) else if j < 20 then (8, 100) else if j = 20 then (9, L) else (0, 0)
def ii0 (xs : Nat → Int32) (j i : Nat) : Int32 := if j < 9 then 0 else if j < 18 then (stB (j - 9)).getD i 0 else if j = 18 then Int32.ofNat (48 + i / 10) else if j = 19 then Int32.ofNat (48 + i % 10) else if j = 20 then xs i else 0
/-- the first heap: constants alone -/
def A0 (L : Nat) (xs : Nat → Int32) : HP := ((fun a => if a < BIG then (0, 0) else kk0 L (a - BIG)), (fun a i => if a < BIG then 0 else ii0 xs (a - BIG) i), (fun _ _ => 0), (fun a i => if a < BIG then none else if a - BIG < 9 ∧ i = 0 then some (BIG + (9 + (a - BIG))) else none), (fun _ _ => 0), 0, 0)
theorem A0_K (L : Nat) (xs : Nat → Int32) (k : Nat) : hK (A0 L xs) (BIG + k) = kk0 L k := by
  show (if BIG + k < BIG then _ else kk0 L (BIG + k - BIG)) = _
  rw [if_neg (by omega), show BIG + k - BIG = k by omega]
theorem A0_I (L : Nat) (xs : Nat → Int32) (k i : Nat) : hI (A0 L xs) (BIG + k) i = ii0 xs k i := by
  show (if BIG + k < BIG then _ else ii0 xs (BIG + k - BIG) i) = _
  rw [if_neg (by omega), show BIG + k - BIG = k by omega]
theorem A0_R (L : Nat) (xs : Nat → Int32) (k : Nat) (hk : k < 9) : hR (A0 L xs) (BIG + k) 0 = some (BIG + (9 + k)) := by
  show (if BIG + k < BIG then none else if BIG + k - BIG < 9 ∧ 0 = 0 then some (BIG + (9 + (BIG + k - BIG))) else none) = _
  rw [if_neg (by omega), show BIG + k - BIG = k by omega, if_pos ⟨hk, rfl⟩]
theorem A0_lo (L : Nat) (xs : Nat → Int32) (a : Nat) (h : (hK (A0 L xs) a).1 ≠ 0) : BIG ≤ a ∧ ((hK (A0 L xs) a).1 = 8 ∨ (hK (A0 L xs) a).1 = 9 ∨ (hK (A0 L xs) a).1 = 21) := by
  have e : hK (A0 L xs) a = if a < BIG then (0, 0) else kk0 L (a - BIG) := rfl
  rw [e] at h ⊢
  by_cases ha : a < BIG
  · rw [if_pos ha] at h
    exact absurd rfl h
  · rw [if_neg ha] at h ⊢
    refine ⟨by omega, ?_⟩
    unfold kk0 at h ⊢
    split
    · exact Or.inr (Or.inr rfl)
    · split
      · exact Or.inl rfl
      · split
        · exact Or.inl rfl
        · split
          · exact Or.inr (Or.inl rfl)
          · rename_i h1 h2 h3 h4
            rw [if_neg h1, if_neg h2, if_neg h3, if_neg h4] at h
            exact absurd rfl h
theorem WD.of {s : State} {a0 : Array Value} (h : ∀ w ∈ lw_tb, w.before a0 s = true) : WD s := by
  intro w hw hp args
  have h0 := h w hw
  simp only [pW, Bool.or_eq_true] at hp
  rcases hp with hp | hp
  · exact word_at (State.WarmedH.refl s) (good_of_word hp) h0
  · revert h0 hp
    cases w with
    | methodLinkNest a i x n => intro h0 _; exact va_Nw.use rfl (va_Nw.of rfl h0)
    | castable C T => intro h0 _; exact va_Nw.use rfl (va_Nw.of rfl h0)
    | declares y => intro h0 _; exact va_Nw.use rfl (va_Nw.of rfl h0)
    | arrayOver ty => intro h0 _; exact h0
    | _ => intro _ hp; exact absurd hp (by simp)
theorem ao_arr {args : Array Value} {s : State} (h : (Jvm.Cond.arrayOver (.array .int)).before args s = true) : ∃ c, ArrOfT s c (.array .int) ∧ va_RA s c (.array .int) := by
  have h : (Jvm.Cond.arrayOver (.array .int)).holds args s none s [] = true := h
  simp only [Cond.holds, Cond.value, beq_iff_eq] at h
  cases hc : s.vm.findClass (FieldType.array .int).toString with
  | none => simp [hc] at h
  | some comp =>
    simp only [hc, Option.bind_some, Option.bind_eq_some_iff, Option.map_eq_some_iff] at h
    obtain ⟨c, hi, k, hk, hb⟩ := h
    cases hkind : k.kind with
    | array component ty =>
      rw [hkind] at hb
      simp at hb
      exact ⟨c, fun N z => ⟨(fun k h => by cases h), k, hk, component, by rw [hkind, hb.1]⟩, hb.2⟩
    | _ => rw [hkind] at hb; simp at hb
theorem ao_obj {args : Array Value} {s : State} {C : String} (h : (Jvm.Cond.arrayOver (.object C)).before args s = true) : ∃ c, ArrOfT s c (.object C) ∧ va_RA s c (.object C) := by
  have h : (Jvm.Cond.arrayOver (.object C)).holds args s none s [] = true := h
  simp only [Cond.holds, Cond.value, beq_iff_eq] at h
  cases hc : s.vm.findClass C with
  | none => simp [hc] at h
  | some comp =>
    simp only [hc, Option.bind_some, Option.bind_eq_some_iff, Option.map_eq_some_iff] at h
    obtain ⟨c, hi, k, hk, hb⟩ := h
    obtain ⟨hlt, hp, -⟩ := Array.findIdx?_eq_some_iff_getElem.mp hi
    have hkk : s.vm.classes[c] = k := (Array.getElem?_eq_some_iff.mp hk).2
    rw [hkk] at hp
    cases hkind : k.kind with
    | array component ty =>
      rw [hkind] at hb hp
      simp at hb hp
      subst hp
      exact ⟨c, fun N z => ⟨(fun k h => by cases h), k, hk, component, by rw [hkind, hb.1]⟩, k, component, hk, by rw [hkind, hb.1], hc, hb.2⟩
    | _ => rw [hkind] at hb; simp at hb
theorem ao_prim {args : Array Value} {s : State} {t : Nat} (h : (Jvm.Cond.arrayClass (tyN t)).before args s = true) : ∃ c, ArrOfT s c (tyN t) ∧ va_RA s c (tyN t) := by
  obtain ⟨c, k, comp, h1, h2, h3⟩ := Cond.arrayClass_spec (show (Jvm.Cond.arrayClass (tyN t)).holds args s none s [] = true from h)
  refine ⟨c, fun N z => ⟨(fun k h => by cases h), k, h2, comp, h3⟩, ?_⟩
  unfold tyN at h1 ⊢
  split at h1 <;> exact h1
theorem vaK_start {s : State} (hW : WD s) : ∃ (dC : Nat → ClassId) (dI : Nat → Nat → Nat) (dA : Nat → ClassId), va_K (dC, dI) wcl (tyA dA) s := by
  have h1 : ∀ c : Nat, ∃ q : ClassId × (Nat → Nat), ∀ r, wcl[c]? = some r → u_Kn s r.1 r.2.1 r.2.2 q.1 q.2 := by
    intro c
    cases hc : wcl[c]? with
    | none => exact ⟨(0, fun _ => 0), fun r hr => by cases hr⟩
    | some r =>
      have hlt : c < 12 := (List.getElem?_eq_some_iff.mp hc).1
      have hq := List.mem_of_getElem? hc
      obtain ⟨cC, iS, h⟩ := u_known (args := #[]) (n := r.2.2) (fun w hw => hW w (wcl_ws _ hq w hw).1 (wcl_ws _ hq w hw).2 #[]) (fun _ h => h) (hW _ (wi_w c hlt r hc) rfl #[])
      exact ⟨(cC, iS), fun r' hr' => by cases hr'; exact h⟩
  obtain ⟨f, hf⟩ := Classical.axiomOfChoice h1
  have h2 : ∀ t : Nat, ∃ c : ClassId, ∀ k ty, (tyA (fun _ => c))[k]? = some (c, ty) → k + 1 = t → ArrOfT s c ty ∧ va_RA s c ty := by
    intro t
    match t with
    | 0 => exact ⟨0, fun k ty _ h => by omega⟩
    | 1 => obtain ⟨c, h⟩ := ao_prim (t := 1) (hW _ (ac_ok 1 (by omega)) rfl #[]); exact ⟨c, fun k ty e hk => by obtain rfl : k = 0 := (by omega); cases e; exact h⟩
    | 2 => obtain ⟨c, h⟩ := ao_prim (t := 2) (hW _ (ac_ok 2 (by omega)) rfl #[]); exact ⟨c, fun k ty e hk => by obtain rfl : k = 1 := (by omega); cases e; exact h⟩
    | 3 => obtain ⟨c, h⟩ := ao_prim (t := 3) (hW _ (ac_ok 3 (by omega)) rfl #[]); exact ⟨c, fun k ty e hk => by obtain rfl : k = 2 := (by omega); cases e; exact h⟩
    | 4 => obtain ⟨c, h⟩ := ao_prim (t := 4) (hW _ (ac_ok 4 (by omega)) rfl #[]); exact ⟨c, fun k ty e hk => by obtain rfl : k = 3 := (by omega); cases e; exact h⟩
    | 5 => obtain ⟨c, h⟩ := ao_prim (t := 5) (hW _ (ac_ok 5 (by omega)) rfl #[]); exact ⟨c, fun k ty e hk => by obtain rfl : k = 4 := (by omega); cases e; exact h⟩
    | 6 => obtain ⟨c, h⟩ := ao_arr (hW _ (tbg_mem ao_w.2) ao_p.2 #[]); exact ⟨c, fun k ty e hk => by obtain rfl : k = 5 := (by omega); cases e; exact h⟩
    | 7 => obtain ⟨c, h⟩ := ao_obj (hW _ (tbg_mem ao_w.1) ao_p.1 #[]); exact ⟨c, fun k ty e hk => by obtain rfl : k = 6 := (by omega); cases e; exact h⟩
    | t + 8 => exact ⟨0, fun k ty e hk => by
        have : k < 7 := (List.getElem?_eq_some_iff.mp e).1
        omega⟩
  obtain ⟨g, hg⟩ := Classical.axiomOfChoice h2
  refine ⟨fun c => (f c).1, fun c => (f c).2, g, fun c q hq => hf c q hq, fun k q hk => ?_⟩
  match k, hk with
  | 0, hk => cases hk; exact hg 1 0 _ rfl rfl
  | 1, hk => cases hk; exact hg 2 1 _ rfl rfl
  | 2, hk => cases hk; exact hg 3 2 _ rfl rfl
  | 3, hk => cases hk; exact hg 4 3 _ rfl rfl
  | 4, hk => cases hk; exact hg 5 4 _ rfl rfl
  | 5, hk => cases hk; exact hg 6 5 _ rfl rfl
  | 6, hk => cases hk; exact hg 7 6 _ rfl rfl
  | k + 7, hk => cases hk
theorem start_ok {s : State} {b L : Nat} {xs : Nat → Int32} {l : Launch} (hflags : l.flags = flags0) (hL : L ≤ 260) (hts : ∀ w ∈ lw_tbl, w.before #[Value.ref b] s = true) (hX : va_X b L xs s s.heap) (hb : b < s.heap.size) (hgv : (Jvm.Cond.and given_1 narrow_1).before #[Value.ref b] s = true) :
    ∃ (CS : KT) (dC : Nat → ClassId) (dI : Nat → Nat → Nat) (dA : Nat → ClassId), Cx l s.heap.size s.heap CS dC dI dA s ∧ Rel s.heap.size s.heap CS dC dI dA (A0 L xs) s.heap ∧ adr s.heap.size CS (BIG + 20) = b := by
  have htb := lw_tb_ok hts
  have hW : WD s := WD.of htb
  have hF : ∀ c ∈ cF, c.before #[Value.ref b] s = true := flat_of_before _ hgv
  have hA : ∀ a : Nat, a < s.heap.size → ¬ (fun q : Nat => s.heap.size ≤ q) a := fun a ha => by show ¬ s.heap.size ≤ a; omega
  obtain ⟨dC, dI, dA, hKK⟩ := vaK_start hW
  have hstr : ∀ k, ∃ q : Nat × Nat, k < 9 → (tmS k).eval #[Value.ref b] s none [] s = some (.ref q.1) ∧ vk_S 1 [(stB k).length] [stB k] (fun _ => q.1) (fun _ => q.2) (fun q => s.heap.size ≤ q) s s.heap := by
    intro k
    by_cases hk : k < 9
    · obtain ⟨w1, w2, w3, w4⟩ := st_w k hk
      obtain ⟨adK, adV, h1, h2⟩ := vk_Sof (args := #[Value.ref b]) (s := s) (N := 1) (tm := fun _ => tmS k) (len := [(stB k).length]) (byt := [stB k]) (A := fun q => s.heap.size ≤ q)
        (fun i hi => by obtain rfl : i = 0 := (by omega); exact st_l k hk) (fun i hi => hF _ w1) (fun i hi => hF _ w2) (fun i hi => hF _ w3) (fun i hi => by obtain rfl : i = 0 := (by omega); exact hF _ w4)
        (fun i hi j hj => by obtain rfl : i = 0 := (by omega); exact hF _ (st_e k hk j hj)) (fun i j hi hj h => absurd (by omega) h) hA
      refine ⟨(adK 0, adV 0), fun _ => ⟨h2 0 (by omega), ⟨fun i hi => ?_, fun i j hi hj _ => by omega⟩⟩⟩
      obtain rfl : i = 0 := (by omega)
      exact h1.1 0 (by omega)
    · exact ⟨(0, 0), fun h => absurd h hk⟩
  obtain ⟨ad, had⟩ := Classical.axiomOfChoice hstr
  obtain ⟨tT, hT1, hT2⟩ := va_Tof (args := #[Value.ref b]) (s := s) (tm := tmD "DigitTens") (ty := .byte) (N := 100) (f := fun j => .int (Int32.ofNat (48 + j / 10))) (A := fun q => s.heap.size ≤ q) (by decide) (hF _ dg_w.1) (va_eqt (hF _ dg_w.2.1)) (fun j hj => va_eqt (hF _ (dg_t j hj))) hA
  obtain ⟨tO, hO1, hO2⟩ := va_Tof (args := #[Value.ref b]) (s := s) (tm := tmD "DigitOnes") (ty := .byte) (N := 100) (f := fun j => .int (Int32.ofNat (48 + j % 10))) (A := fun q => s.heap.size ≤ q) (by decide) (hF _ dg_w.2.2.1) (va_eqt (hF _ dg_w.2.2.2)) (fun j hj => va_eqt (hF _ (dg_o j hj))) hA
  obtain ⟨o1, o2, o3, o4, o5, o6, o7, o8⟩ := ot_t
  have hsf : ∃ t : Nat, va_Z "jdk/internal/util/Preconditions" "SIOOBE_FORMATTER" "Ljava/util/function/BiFunction;" .null (fun q => s.heap.size ≤ q) s s.heap ∨ va_Z "jdk/internal/util/Preconditions" "SIOOBE_FORMATTER" "Ljava/util/function/BiFunction;" (.ref t) (fun q => s.heap.size ≤ q) s s.heap := by
    rcases va_Zqof (htb _ sio_t.1) (htb _ sio_t.2) (hF _ sio_w) hA with h | ⟨t, h⟩
    · exact ⟨0, Or.inl h⟩
    · exact ⟨t, Or.inr h⟩
  obtain ⟨sf, hsf⟩ := hsf
  let CS : KT := ((fun k => if k < 9 then (ad k).1 else if k < 18 then (ad (k - 9)).2 else if k = 18 then tT else if k = 19 then tO else if k = 21 then sf else b), A0 L xs)
  have hc9 : ∀ k, k < 9 → CS.1 k = (ad k).1 := fun k hk => if_pos hk
  have hc18 : ∀ k, k < 9 → CS.1 (9 + k) = (ad k).2 := fun k hk => by
    show (if 9 + k < 9 then _ else if 9 + k < 18 then (ad (9 + k - 9)).2 else _) = _
    rw [if_neg (by omega), if_pos (by omega), show 9 + k - 9 = k by omega]
  refine ⟨CS, dC, dI, dA, ⟨?_, hW, hKK, ?_, ?_, ?_, ?_, ?_, ?_, ?_, ?_, ?_⟩, ⟨rfl, rfl, by show 0 < BIG; decide, fun q hq => rfl, fun a ha => Or.inr (A0_lo L xs a ha), fun a e he => ?_, fun a ha => ⟨rfl, rfl, rfl⟩⟩, ?_⟩
  · unfold Launch.stackTraces
    rw [hflags]
    decide
  · intro q hq
    obtain ⟨e1, e2⟩ := ms_q q hq
    have hfc : s.vm.findClass q.1 = some (dC 8) := by rw [e1]; exact (hKK.1 8 _ rfl).2.1
    have hb1 : (Jvm.Cond.stringRef q.1 q.2.1 q.2.2).before #[Value.ref b] s = true := htb _ e2
    obtain ⟨k, cf, i, a, -, -, -, -, -, hev⟩ := Cond.stringRef_spec hfc hb1
    exact ⟨a, vk_R.of hb1 hev⟩
  · intro q hq
    obtain ⟨e1, e2, e3⟩ := st_q q hq
    have hb1 : (Jvm.Cond.stringRef q.1 q.2.1 q.2.2.1).before #[Value.ref b] s = true := htb _ e3
    have hev := (had q.2.2.2 e1).1
    unfold tmS at hev
    rw [e2] at hev
    rw [hc9 _ e1]
    exact vk_R.of hb1 hev
  · exact vx_Zqof (htb _ o6) (htb _ o8) (hF _ ot_w.2.1) hA
  · exact vx_Zqof (htb _ o7) (htb _ o8) (hF _ ot_w.2.2) hA
  · exact ⟨va_Zof (htb _ o1) (htb _ o2) (va_eqt (hF _ ot_w.1)) hA, hsf⟩
  · exact va_Zof (htb _ o3) (htb _ o5) hT1 hA
  · exact va_Zof (htb _ o4) (htb _ o5) hO1 hA
  · exact fun a b' ha hb' hab => va_Nc.of (hF _ (nc_w a ha b' hb' hab))
  · intro k n
    have eK : hK CS.2 (BIG + k) = kk0 L k := A0_K L xs k
    have eI : ∀ i, hI CS.2 (BIG + k) i = ii0 xs k i := A0_I L xs k
    refine ⟨fun e => ?_, fun e => ?_, fun e => ?_⟩
    · rw [eK] at e
      unfold kk0 at e
      by_cases h1 : k < 9
      · rw [if_pos h1] at e; cases e
      · rw [if_neg h1] at e
        by_cases h2 : k < 18
        · rw [if_pos h2] at e
          cases e
          obtain ⟨j, rfl⟩ : ∃ j, k = 9 + j := ⟨k - 9, by omega⟩
          have hj : j < 9 := by omega
          rw [show 9 + j - 9 = j by omega, hc18 j hj]
          have h9 := ((had j hj).2.1 0 (by omega)).2.2.2
          have ef : (fun i => Value.int (hI CS.2 (BIG + (9 + j)) i)) = fun i => Value.int (([stB j].getD 0 []).getD i 0) := by
            funext i
            rw [eI i]
            unfold ii0
            rw [if_neg h1, if_pos h2, show 9 + j - 9 = j by omega]
            rfl
          rw [ef]
          exact h9
        · rw [if_neg h2] at e
          by_cases h3 : k < 20
          · rw [if_pos h3] at e
            cases e
            by_cases h4 : k = 18
            · subst h4
              have ef : (fun i => Value.int (hI CS.2 (BIG + 18) i)) = fun i => Value.int (Int32.ofNat (48 + i / 10)) := funext fun i => by rw [eI i]; rfl
              rw [ef]
              exact hT2
            · obtain rfl : k = 19 := (by omega)
              have ef : (fun i => Value.int (hI CS.2 (BIG + 19) i)) = fun i => Value.int (Int32.ofNat (48 + i % 10)) := funext fun i => by rw [eI i]; rfl
              rw [ef]
              exact hO2
          · rw [if_neg h3] at e
            by_cases h4 : k = 20
            · rw [if_pos h4] at e; cases e
            · rw [if_neg h4] at e; cases e
    · rw [eK] at e
      unfold kk0 at e
      by_cases h1 : k < 9
      · rw [if_pos h1] at e; cases e
      · rw [if_neg h1] at e
        by_cases h2 : k < 18
        · rw [if_pos h2] at e; cases e
        · rw [if_neg h2] at e
          by_cases h3 : k < 20
          · rw [if_pos h3] at e; cases e
          · rw [if_neg h3] at e
            by_cases h4 : k = 20
            · rw [if_pos h4] at e
              cases e
              subst h4
              have ef : (fun i => Value.int (hI CS.2 (BIG + 20) i)) = fun i => Value.int (xs i) := funext fun i => by rw [eI i]; rfl
              rw [ef]
              obtain ⟨scr, x1, x2, x3, x4, x5⟩ := hX
              exact ⟨scr, x1, x2, x3, by omega, by rw [x4], x5, hA b hb⟩
            · rw [if_neg h4] at e; cases e
    · rw [eK] at e
      unfold kk0 at e
      by_cases h1 : k < 9
      · rw [hc9 k h1]
        obtain ⟨g1, g2, g3, -⟩ := (had k h1).2.1 0 (by omega)
        refine ⟨g1, ?_, fun v hv => ?_⟩
        · rw [eI 1]
          unfold ii0
          rw [if_pos h1]
          exact g2
        · have hv2 : hR (A0 L xs) (BIG + k) 0 = some v := hv
          rw [A0_R L xs k h1] at hv2
          cases (Option.some.inj hv2)
          rw [adr_big, hc18 k h1]
          exact g3
      · rw [if_neg h1] at e
        by_cases h2 : k < 18
        · rw [if_pos h2] at e; cases e
        · rw [if_neg h2] at e
          by_cases h3 : k < 20
          · rw [if_pos h3] at e; cases e
          · rw [if_neg h3] at e
            by_cases h4 : k = 20
            · rw [if_pos h4] at e; cases e
            · rw [if_neg h4] at e; cases e
  · obtain ⟨n0, n8, n9, n21⟩ := celA_ne he
    obtain ⟨hbg, h⟩ := A0_lo L xs a n0
    rcases h with h | h | h
    · exact absurd h n8
    · exact absurd h n9
    · exact absurd (n21 h) (by omega)
  · rw [adr_big]
    rfl
