set_option maxRecDepth 100000 in
theorem mi_nl : ∀ k, k < 173 → 0 < k → (mi k).1.name ≠ "law" := by decide +kernel
theorem tVU_np : (parseMethodDescriptor (mi tVU.2.2.2.2.2).1.desc).map (fun d => d.parameters.length + 1) = some tVU.2.2.2.1 := by decide +kernel
/-! the small machine's steps, sound over the machine: what the rows' check gives, and all steps at once -/
theorem and_t {a b : Bool} (h : (a && b) = true) : a = true ∧ b = true := by simpa using h
theorem cond_t {b : Bool} {p : Prop} (h : cond b p False) : b = true ∧ p := by
  cases b with
  | true => exact ⟨rfl, h⟩
  | false => exact h.elim
theorem isX_ok {x : List Nat} {k : Nat} (h : isX x k = true) : ∃ l, x = k :: l := by
  cases x with
  | nil => cases h
  | cons a l => exact ⟨l, by rw [Nat.eq_of_beq_eq_true h]⟩
theorem lnX_ok {pc nx n : Nat} (h : lnX pc nx n = true) : nx = pc + n := Nat.eq_of_beq_eq_true h
theorem tgX_ok {pc : Nat} {off : Int} {x : List Nat} (h : tgX pc off x = true) : ∃ t l, x = t :: l ∧ (pc : Int) + off = (t : Int) := by
  cases x with
  | nil => cases h
  | cons a l => exact ⟨a, l, rfl, of_decide_eq_true h⟩
theorem blt_ok {a b : Nat} (h : Nat.blt a b = true) : a < b := by simp [Nat.blt] at h; omega
theorem skB_ok {own : Nat} {i : Instr} {cst : Int32} {x : List Nat} (h20 : own < 20) (h : skB own i cst x = true) (B : Nat) (Hb : Heap) (CS : KT) (s : State) (hW : WD s) (hS : SF B Hb CS s) : skF (cnm own) B Hb CS s i cst x := by
  have hKI : ∀ ix, (tKI own).any (fun r => Nat.beq r.1 ix && decide (r.2.1 = cst)) = true → ∀ args : Array Value, (Jvm.Cond.constant (cnm own) ix cst).before args s = true := by
    intro ix h args
    obtain ⟨r, hr, h⟩ := List.any_eq_true.mp h
    simp only [Bool.and_eq_true, Nat.beq_eq, decide_eq_true_eq] at h
    have h9 := tKI_ok own h20 r hr
    rw [h.1, h.2] at h9
    exact hW _ (tbg_mem h9) rfl args
  have hST : ∀ ix k, strT.any (fun q => decide (q.1 = cnm own) && Nat.beq q.2.1 ix && Nat.beq q.2.2.2 k) = true → ∃ tx, vk_R (cnm own) ix tx (CS.1 k) s := by
    intro ix k h
    obtain ⟨q, hq, h⟩ := List.any_eq_true.mp h
    simp only [Bool.and_eq_true, Nat.beq_eq, decide_eq_true_eq] at h
    have h9 := hS.2.1 q hq
    rw [h.1.1, h.1.2, h.2] at h9
    exact ⟨_, h9⟩
  have hKL : ∀ ix (n : Int64), (tKL own).any (fun r => Nat.beq r.1 ix && decide (Int64.ofInt r.2.1 = n)) = true → ∀ args : Array Value, (Jvm.Cond.constantLong (cnm own) ix n).before args s = true := by
    intro ix n h args
    obtain ⟨r, hr, h⟩ := List.any_eq_true.mp h
    simp only [Bool.and_eq_true, Nat.beq_eq, decide_eq_true_eq] at h
    have h9 := tKL_ok own h20 r hr
    rw [h.1, h.2] at h9
    exact hW _ (tbg_mem h9) rfl args
  have hGS : ∀ ix k, (tGS own).any (fun r => Nat.beq r.1 ix && Nat.beq r.2.1 k) = true → ∃ r ∈ tGS own, r.1 = ix ∧ r.2.1 = k := by
    intro ix k h
    obtain ⟨r, hr, h⟩ := List.any_eq_true.mp h
    simp only [Bool.and_eq_true, Nat.beq_eq] at h
    exact ⟨r, hr, h⟩
  cases i with
  | iconst v => exact (show _ = cst from of_decide_eq_true h)
  | bipush v => exact (show _ = cst from of_decide_eq_true h)
  | sipush v => exact (show _ = cst from of_decide_eq_true h)
  | ldc ix =>
    match x, h with
    | [], h => exact hKI ix h
    | k :: _, h => exact hST ix k h
  | ldc_w ix =>
    match x, h with
    | [], h => exact hKI ix h
    | k :: _, h => exact hST ix k h
  | ldc2_w ix =>
    match x, h with
    | [], h => exact hKL ix _ h
    | [n], h => exact hKL ix _ h
    | _ :: _ :: _, h => exact hKL ix _ h
  | getstatic ix =>
    match x, h with
    | [], h =>
      obtain ⟨h1, h2⟩ := and_t h
      obtain ⟨r, hr, e1, e2⟩ := hGS ix 0 h1
      have h9 := tGS_ok own h20 r hr
      rw [e1, e2] at h9
      have h3 : cst = 1 := of_decide_eq_true h2
      subst h3
      exact ⟨_, _, _, hS.2.2.2.2.1.1, fun args => hW _ (tbg_mem h9) rfl args⟩
    | k :: _, h =>
      have h : ((Nat.beq k 18 && (tGS own).any (fun r => Nat.beq r.1 ix && Nat.beq r.2.1 1)) || (Nat.beq k 19 && (tGS own).any (fun r => Nat.beq r.1 ix && Nat.beq r.2.1 2))) = true := h
      rcases Bool.or_eq_true_iff.mp h with h | h
      · obtain ⟨h1, h2⟩ := and_t h
        obtain ⟨r, hr, e1, e2⟩ := hGS ix 1 h2
        have h9 := tGS_ok own h20 r hr
        rw [e1, e2] at h9
        have h3 : k = 18 := Nat.eq_of_beq_eq_true h1
        subst h3
        exact ⟨_, _, _, hS.2.2.2.2.2.1, fun args => hW _ (tbg_mem h9) rfl args⟩
      · obtain ⟨h1, h2⟩ := and_t h
        obtain ⟨r, hr, e1, e2⟩ := hGS ix 2 h2
        have h9 := tGS_ok own h20 r hr
        rw [e1, e2] at h9
        have h3 : k = 19 := Nat.eq_of_beq_eq_true h1
        subst h3
        exact ⟨_, _, _, hS.2.2.2.2.2.2.1, fun args => hW _ (tbg_mem h9) rfl args⟩
  | _ => exact trivial
/-- where a switch goes -/
def swT (v : Int32) : List Nat → Nat → Nat
  | n :: t :: l, d => cond (decide (v = Int32.ofNat n)) t (swT v l d)
  | _, d => d
theorem swP_T {v : Int32} {d : Nat} {K : Nat → Prop} : ∀ (l : List Nat), swP v l d K → K (swT v l d)
  | [], h => h
  | [_], h => h
  | n :: t :: l, h => by
    have h : (v = Int32.ofNat n → K t) ∧ (¬ v = Int32.ofNat n → swP v l d K) := h
    show K (cond (decide (v = Int32.ofNat n)) t (swT v l d))
    by_cases hv : v = Int32.ofNat n
    · rw [decide_eq_true hv]; exact h.1 hv
    · rw [decide_eq_false hv]; exact swP_T l (h.2 hv)
theorem i32_n {n : Nat} (h : n < 2147483648) : (Int32.ofNat n).toInt = (n : Int) := Int32.toInt_ofNat_of_lt (by omega)
theorem swTab_ok {pc t : Nat} {v : Int32} : ∀ (os : List Int) (a : Int) (l : List Nat), swTab pc a os l = true →
    (a ≤ v.toInt ∧ v.toInt < a + (os.length : Int) ∧ ∃ off, os[(v.toInt - a).toNat]? = some off ∧ (pc : Int) + off = (swT v l t : Int)) ∨ ((v.toInt < a ∨ a + (os.length : Int) ≤ v.toInt) ∧ swT v l t = t)
  | [], a, [], _ => Or.inr ⟨by simp; omega, rfl⟩
  | [], a, [_], h => by cases h
  | [], a, _ :: _ :: _, h => by cases h
  | _ :: _, a, [], h => by cases h
  | _ :: _, a, [_], h => by cases h
  | off :: os, a, n :: t' :: l, h => by
    simp only [swTab, Bool.and_eq_true, decide_eq_true_eq] at h
    obtain ⟨⟨⟨e1, e2⟩, e3⟩, h⟩ := h
    have e2 := blt_ok e2
    have hT : swT v (n :: t' :: l) t = cond (decide (v = Int32.ofNat n)) t' (swT v l t) := rfl
    by_cases hv : v = Int32.ofNat n
    · left
      have hvi : v.toInt = a := by rw [hv, i32_n e2, e1]
      refine ⟨by omega, by simp only [List.length_cons]; omega, off, ?_, ?_⟩
      · rw [hvi, show (a - a).toNat = 0 by omega]; rfl
      · rw [hT, decide_eq_true hv]; exact e3
    · have hvi : v.toInt ≠ a := by
        intro q
        apply hv
        apply Int32.toInt_inj.mp
        rw [q, i32_n e2, e1]
      rw [hT, decide_eq_false hv]
      rcases swTab_ok os (a + 1) l h with ⟨q1, q2, off2, q3, q4⟩ | ⟨q1, q2⟩
      · left
        refine ⟨by omega, by simp only [List.length_cons]; omega, off2, ?_, q4⟩
        rw [show (v.toInt - a).toNat = (v.toInt - (a + 1)).toNat + 1 by omega]
        exact q3
      · right
        refine ⟨?_, q2⟩
        simp only [List.length_cons]
        omega
theorem swLk_ok {pc t : Nat} {v : Int32} {dflt : Int} (ht : (pc : Int) + dflt = (t : Int)) : ∀ (os : List (Int × Int)) (l : List Nat), swLk pc os l = true → (pc : Int) + Jvm.Op.lookupswitch.offset os dflt v.toInt = (swT v l t : Int)
  | [], [], _ => ht
  | [], [_], h => by cases h
  | [], _ :: _ :: _, h => by cases h
  | _ :: _, [], h => by cases h
  | _ :: _, [_], h => by cases h
  | q :: os, n :: t' :: l, h => by
    simp only [swLk, Bool.and_eq_true, decide_eq_true_eq] at h
    obtain ⟨⟨⟨e1, e2⟩, e3⟩, h⟩ := h
    have e2 := blt_ok e2
    have hT : swT v (n :: t' :: l) t = cond (decide (v = Int32.ofNat n)) t' (swT v l t) := rfl
    obtain ⟨q1, q2⟩ := q
    rw [Jvm.Op.lookupswitch.offset_cons, hT]
    by_cases hv : v = Int32.ofNat n
    · have hvi : v.toInt = (n : Int) := by rw [hv, i32_n e2]
      rw [decide_eq_true hv, if_pos (by rw [hvi]; exact e1.symm)]
      exact e3
    · have hvi : ¬ q1 = v.toInt := by
        intro q
        apply hv
        apply Int32.toInt_inj.mp
        rw [i32_n e2, ← q]
        exact e1.symm
      rw [decide_eq_false hv, if_neg hvi]
      exact swLk_ok ht os l h
section IN
variable {own : String} {cc : ByteArray} {nL : Nat} {rt : Option FieldType} {ini : Bool} {hh : List (Nat × Nat × Nat × Nat)} {d n0 w0 : Nat} {o : Out} {A A' : HP} {pc : Nat} {L : LV} {st : List Value}
theorem in_tsw {dflt lo hi : Int} {offs : Array Int} {len t : Nat} {v : Int32} {l : List Nat} (hd : decode cc pc = .ok (.tableswitch dflt lo hi offs, len)) (ht : (pc : Int) + dflt = (t : Int)) (hlen : lo + (offs.toList.length : Int) = hi + 1) (hs : swTab pc lo offs.toList l = true) (K : Inn own cc nL rt ini hh d n0 w0 o A' (swT v l t) L st A) : Inn own cc nL rt ini hh d n0 w0 o A' pc L (.int v :: st) A := by
  intro p l9 e R s m args below meth c B Hb CS dC dI dA F hR hB H locs ls ms hr hlo hL hst
  obtain ⟨hx, hb, hml, hlk, hown, hrt, hini, hT, hs0, hlw, hC⟩ := id F
  obtain ⟨mv, r, rfl, h1, hst⟩ := hst
  cases (show mv = _ from h1)
  have K := K p l9 e R s m args below meth c B Hb CS dC dI dA F hR hB H locs ls r hr hlo hL hst
  rcases swTab_ok (t := t) (v := v) _ _ _ hs with ⟨q1, q2, off, q3, q4⟩ | ⟨q1, q2⟩
  · exact lv_tableIn hx hb hd (by omega) (by omega) (by rw [← Array.getElem?_toList]; exact q3) q4 K
  · rw [q2] at K
    exact lv_tableOut hx hb hd (by omega) ht K
theorem in_lsw {dflt : Int} {ps : Array (Int × Int)} {len t : Nat} {v : Int32} {l : List Nat} (hd : decode cc pc = .ok (.lookupswitch dflt ps, len)) (ht : (pc : Int) + dflt = (t : Int)) (hp : (ps.toList.zip (ps.toList.drop 1)).all (fun (a, next) => a.1 < next.1) = true) (hs : swLk pc ps.toList l = true) (K : Inn own cc nL rt ini hh d n0 w0 o A' (swT v l t) L st A) : Inn own cc nL rt ini hh d n0 w0 o A' pc L (.int v :: st) A := by
  intro p l9 e R s m args below meth c B Hb CS dC dI dA F hR hB H locs ls ms hr hlo hL hst
  obtain ⟨hx, hb, hml, hlk, hown, hrt, hini, hT, hs0, hlw, hC⟩ := id F
  obtain ⟨mv, r, rfl, h1, hst⟩ := hst
  cases (show mv = _ from h1)
  exact lv_lookup hx hb hd hp rfl (swLk_ok ht _ _ hs) (K p l9 e R s m args below meth c B Hb CS dC dI dA F hR hB H locs ls r hr hlo hL hst)
end IN
/-- from here on some end of Post is reached -/
def GW (own : String) (cc : ByteArray) (nL : Nat) (rt : Option FieldType) (ini : Bool) (hh : List (Nat × Nat × Nat × Nat)) (d n0 w0 : Nat) (Post : Out → HP → Prop) (pc : Nat) (L : LV) (st : List Value) (A : HP) : Prop :=
  n0 ≤ hn A → w0 ≤ hw A → ∃ (o : Out) (A' : HP), Post o A' ∧ okO o ∧ hn A ≤ hn A' ∧ hw A ≤ hw A' ∧ Inn own cc nL rt ini hh d n0 w0 o A' pc L st A
section GW
variable {own : String} {cc : ByteArray} {nL : Nat} {rt : Option FieldType} {ini : Bool} {hh : List (Nat × Nat × Nat × Nat)} {d n0 w0 : Nat} {Post : Out → HP → Prop} {A A2 : HP} {pc pc2 : Nat} {L L2 : LV} {st st2 : List Value}
theorem GW.go (h : GW own cc nL rt ini hh d n0 w0 Post pc2 L2 st2 A2) (e1 : hn A ≤ hn A2) (e2 : hw A ≤ hw A2) (k : n0 ≤ hn A → w0 ≤ hw A → ∀ o A', hn A2 ≤ hn A' → hw A2 ≤ hw A' → Inn own cc nL rt ini hh d n0 w0 o A' pc2 L2 st2 A2 → Inn own cc nL rt ini hh d n0 w0 o A' pc L st A) : GW own cc nL rt ini hh d n0 w0 Post pc L st A := by
  intro h0 h1
  obtain ⟨o, A', hP, ho, l1, l2, K⟩ := h (Nat.le_trans h0 e1) (Nat.le_trans h1 e2)
  exact ⟨o, A', hP, ho, Nat.le_trans e1 l1, Nat.le_trans e2 l2, k h0 h1 o A' l1 l2 K⟩
theorem GW.same (h : GW own cc nL rt ini hh d n0 w0 Post pc2 L2 st2 A2) (e1 : hn A2 = hn A) (e2 : hw A2 = hw A) (k : ∀ o A', Inn own cc nL rt ini hh d n0 w0 o A' pc2 L2 st2 A2 → Inn own cc nL rt ini hh d n0 w0 o A' pc L st A) : GW own cc nL rt ini hh d n0 w0 Post pc L st A :=
  h.go (Nat.le_of_eq e1.symm) (Nat.le_of_eq e2.symm) (fun _ _ o A' _ _ K => k o A' K)
theorem GW.end (o : Out) (hP : Post o A2) (ho : okO o) (e1 : hn A ≤ hn A2) (e2 : hw A ≤ hw A2) (k : n0 ≤ hn A → w0 ≤ hw A → Inn own cc nL rt ini hh d n0 w0 o A2 pc L st A) : GW own cc nL rt ini hh d n0 w0 Post pc L st A :=
  fun h0 h1 => ⟨o, A2, hP, ho, e1, e2, k h0 h1⟩
theorem GW.stk {i : Instr} {cst : Int32} {x : List Nat} {ow : Nat} (h20 : ow < 20) (hd : decode cc pc = .ok (i, lenI i)) (hsk : skB ow i cst x = true) (h : match stkI i cst x st with | some st' => GW (cnm ow) cc nL rt ini hh d n0 w0 Post (pc + lenI i) L st' A | none => False) : GW (cnm ow) cc nL rt ini hh d n0 w0 Post pc L st A := by
  split at h
  · rename_i st' e
    exact h.same rfl rfl (fun o A' K => in_stk hd (fun B Hb CS s hW hS => skB_ok h20 hsk B Hb CS s hW hS) e K)
  · exact h.elim
end GW
/-- what the soundness of the methods that are called gives -/
def okS2 (d : Nat) (S : SpecT) : Prop := ∀ k, 0 < k → k < 173 → ∀ (as : List Value) (A : HP) (Post : Out → HP → Prop), S k as A Post → ∃ (o : Out) (A' : HP), Post o A' ∧ okO o ∧ hn A ≤ hn A' ∧ hw A ≤ hw A' ∧ MetOK (mi k) d as A o A'
theorem mOK_all {k : Nat} (h0 : 0 < k) (hk : k < 173) : mOK (mi k) := by
  have h1 := mp_all k hk h0
  have h2 : k ∈ mpT.map (fun r => r.1) := by simpa using h1
  obtain ⟨r, hr, rfl⟩ := List.mem_map.mp h2
  have h3 := mp_ok r hr
  refine ⟨?_, tbg_mem h3.1, h3.2.1, h3.2.2.1, h3.2.2.2⟩
  rcases mi_P r.1 with h | h
  · exact h
  · exact absurd h (mi_nl r.1 hk h0)
section GC
variable {own : String} {cc : ByteArray} {nL : Nat} {rt : Option FieldType} {ini : Bool} {hh h4 : List (Nat × Nat × Nat × Nat)} {d n0 w0 : Nat} {Post : Out → HP → Prop} {A : HP} {pc : Nat} {L : LV} {st : List Value}
theorem GW.call {S : SpecT} {k : Nat} {as r : List Value} (h0k : 0 < k) (hk : k < 173) (hS : okS2 d S) (hhk : hhOK own hh h4) (h : callP S h4 Post pc (pc + 3) L (GW own cc nL rt ini hh (d + 1) n0 w0 Post) k as r A)
    (K : ∀ (o1 : Out) (A1 : HP) (o : Out) (A' : HP), catS r ≤ 8 → noJ as = true → okO o1 → n0 ≤ hn A → w0 ≤ hw A → hn A ≤ hn A1 → hw A ≤ hw A1 → hn A1 ≤ hn A' → hw A1 ≤ hw A' → MetOK (mi k) d as A o1 A1 → cK own cc nL rt ini hh h4 (d + 1) n0 w0 o A' pc L r A1 o1 → Inn own cc nL rt ini hh (d + 1) n0 w0 o A' pc L st A) : GW own cc nL rt ini hh (d + 1) n0 w0 Post pc L st A := by
  obtain ⟨hb, h⟩ := cond_t h
  obtain ⟨hb1, hb2⟩ := and_t hb
  have hb1 := Nat.le_of_ble_eq_true hb1
  obtain ⟨o1, A1, hP, hok, e1, e2, hM⟩ := hS k h0k hk as A _ h
  cases o1 with
  | inl v =>
    cases v with
    | none => exact GW.go hP e1 e2 (fun g0 g1 o A' l1 l2 Kc => K _ A1 o A' hb1 hb2 hok g0 g1 e1 e2 l1 l2 hM Kc)
    | some v => exact GW.go hP e1 e2 (fun g0 g1 o A' l1 l2 Kc => K _ A1 o A' hb1 hb2 hok g0 g1 e1 e2 l1 l2 hM Kc)
  | inr E =>
    have hP : (match findH h4 pc E with
      | some h => GW own cc nL rt ini hh (d + 1) n0 w0 Post h L [.retAddr 0] A1
      | none => match (generalizing := false) h4 with
        | [] => Post (.inr E) A1
        | _ => False) := hP
    split at hP
    · rename_i h9 e9
      exact GW.go hP e1 e2 (fun g0 g1 o A' l1 l2 Kc => K _ A1 o A' hb1 hb2 hok g0 g1 e1 e2 l1 l2 hM (Or.inl ⟨h9, e9, Kc⟩))
    · split at hP
      · have hh0 : hh = [] := by
          cases hh with
          | nil => rfl
          | cons a l => exact hhk.elim
        exact GW.end (.inr E) hP hok e1 e2 (fun g0 g1 => K _ A1 _ A1 hb1 hb2 hok g0 g1 e1 e2 (Nat.le_refl _) (Nat.le_refl _) hM (Or.inr ⟨hh0, rfl, rfl⟩))
      · exact hP.elim
end GC

section GD
variable {own : Nat} {cc : ByteArray} {nL : Nat} {rt : Option FieldType} {ini : Bool} {hh h4 : List (Nat × Nat × Nat × Nat)} {d n0 w0 : Nat} {Post : Out → HP → Prop} {A : HP} {pc nx : Nat} {L : LV} {st : List Value}
theorem cl_def {i : Instr} {cst : Int32} {x : List Nat} (h20 : own < 20) (hd : decode cc pc = .ok (i, nx - pc)) (hQ : (lnX pc nx (lenI i) && skB own i cst x) = true) (h : match stkI i cst x st with | some st' => GW (cnm own) cc nL rt ini hh (d + 1) n0 w0 Post nx L st' A | none => False) : GW (cnm own) cc nL rt ini hh (d + 1) n0 w0 Post pc L st A := by
  obtain ⟨h1, h2⟩ := and_t hQ
  obtain rfl := lnX_ok h1
  rw [Nat.add_sub_cancel_left] at hd
  exact GW.stk h20 hd h2 h
theorem fOK_of {ix ci k : Nat} (h20 : own < 20) (h : (tF own).any (fun r => Nat.beq r.1 ix && Nat.beq r.2.1 ci && Nat.beq r.2.2.1 k) = true) : fOK (cnm own) ix ci k := by
  obtain ⟨r, hr, h⟩ := List.any_eq_true.mp h
  simp only [Bool.and_eq_true, Nat.beq_eq] at h
  obtain ⟨⟨e1, e2⟩, e3⟩ := h
  obtain ⟨q, hq, h1, h2⟩ := tF_ok own h20 r hr
  rw [e1] at h2
  rw [e2] at hq
  rw [e3] at h1 h2
  exact ⟨q, Option.mem_def.mp hq, h1, tbg_mem h2⟩
theorem pOK_of {ix ci k t : Nat} (hf : fOK (cnm own) ix ci k) (h5 : fiB own ini ci k = true) (h4 : (ftag ci).getD k 0 = t) (h6 : ftB ci k t = true) : pOK (cnm own) ini ix ci k t := by
  obtain ⟨q, hq, h1, h2⟩ := hf
  refine ⟨q, hq, h1, h2, ?_, h4, ?_⟩
  · unfold fiB at h5
    rw [hq] at h5
    simp only [Bool.or_eq_true, Bool.not_eq_true', Bool.and_eq_true, decide_eq_true_eq] at h5
    exact h5
  · unfold ftB at h6
    split at h6 <;> first | (rename_i e; exact e) | (rename_i e; exact Or.inl ⟨_, e⟩) | (rename_i e; exact Or.inr ⟨_, e⟩) | cases h6
theorem ftB_int {ci k t : Nat} (h6 : ftB ci k t = true) (ht : t ≠ 1 ∧ t ≠ 2) : (t = 0 ∧ ffty ci k = .int) ∨ (t = 3 ∧ ffty ci k = .char) ∨ (t = 4 ∧ ffty ci k = .byte) ∨ (t = 5 ∧ ffty ci k = .boolean) := by
  unfold ftB at h6
  split at h6 <;> rename_i e <;> first | (exact Or.inl ⟨rfl, e⟩) | (exact Or.inr (Or.inl ⟨rfl, e⟩)) | (exact Or.inr (Or.inr (Or.inl ⟨rfl, e⟩))) | (exact Or.inr (Or.inr (Or.inr ⟨rfl, e⟩))) | (exact absurd rfl ht.1) | (exact absurd rfl ht.2) | cases h6
theorem ftB_1 {ci k t : Nat} (ht : t = 1) (h6 : ftB ci k t = true) : ffty ci k = .long := by
  unfold ftB at h6
  split at h6 <;> first | assumption | (exact absurd ht (by decide)) | cases h6
theorem ftB_2 {ci k t : Nat} (ht : t = 2) (h6 : ftB ci k t = true) : (∃ n, ffty ci k = .object n) ∨ ∃ u, ffty ci k = .array u := by
  unfold ftB at h6
  split at h6 <;> rename_i e <;> first | (exact Or.inl ⟨_, e⟩) | (exact Or.inr ⟨_, e⟩) | (exact absurd ht (by decide)) | cases h6
theorem nOK_of {ix ci w : Nat} (h20 : own < 20) (h : (tW own).any (fun r => Nat.beq r.1 ix && Nat.beq r.2.1 ci && Nat.beq r.2.2.1 w) = true) : nOK (cnm own) ix ci w := by
  obtain ⟨r, hr, h⟩ := List.any_eq_true.mp h
  simp only [Bool.and_eq_true, Nat.beq_eq] at h
  obtain ⟨⟨e1, e2⟩, e3⟩ := h
  obtain ⟨q, hq, h1, h2, h3, h4⟩ := tW_ok own h20 r hr
  rw [e1] at h2
  rw [e2] at hq
  rw [e3] at h1
  exact ⟨q, Option.mem_def.mp hq, h1, tbg_mem h2, tbg_mem h3, tbg_mem h4⟩
theorem rtB_ok {t : Nat} (h : rtB rt t = true) : ∃ ty, rt = some ty ∧ ((t = 0 ∧ ty = .int) ∨ (t = 3 ∧ ty = .char) ∨ (t = 4 ∧ ty = .byte) ∨ (t = 5 ∧ ty = .boolean)) := by
  unfold rtB at h
  split at h
  · exact ⟨_, rfl, Or.inl ⟨Nat.eq_of_beq_eq_true h, rfl⟩⟩
  · exact ⟨_, rfl, Or.inr (Or.inl ⟨Nat.eq_of_beq_eq_true h, rfl⟩)⟩
  · exact ⟨_, rfl, Or.inr (Or.inr (Or.inl ⟨Nat.eq_of_beq_eq_true h, rfl⟩))⟩
  · exact ⟨_, rfl, Or.inr (Or.inr (Or.inr ⟨Nat.eq_of_beq_eq_true h, rfl⟩))⟩
  · cases h
theorem tE_w : ∀ r ∈ tE, r.2.2 < 6 ∧ Jvm.Cond.classLink (cnm 8) r.1 (exN r.2.2) ∈ lw_tb ∧ Jvm.Cond.initialized (exN r.2.2) ∈ lw_tb ∧ (vx_aX (cnm 8) r.2.1 (exN r.2.2) (ixE r.2.2) (rxE r.2.2) ["java/lang/RuntimeException", "java/lang/Exception"]).all (fun w => decide (w ∈ lw_tb) && pW w && vx_ot w) = true := by decide +kernel
theorem th_ok {ix E : Nat} (hd : decode cc pc = .ok (.new ix, 3)) (h : thB own cc pc ix E = true) (hh0 : hh = []) (hP : Post (.inr E) (junk A 6)) : GW (cnm own) cc nL rt ini hh (d + 1) n0 w0 Post pc L [] A := by
  unfold thB at h
  obtain ⟨h, h3⟩ := and_t h
  obtain ⟨h1, h2⟩ := and_t h
  obtain rfl := Nat.eq_of_beq_eq_true h1
  obtain ⟨r, hr, h3⟩ := List.any_eq_true.mp h3
  obtain ⟨h3, h4⟩ := and_t h3
  obtain ⟨h5, h6⟩ := and_t h3
  have h5 := Nat.eq_of_beq_eq_true h5
  have h6 := Nat.eq_of_beq_eq_true h6
  obtain ⟨q, hq, h4⟩ := List.any_eq_true.mp h4
  obtain ⟨h7, h8⟩ := and_t h4
  have h7 := of_decide_eq_true h7
  obtain ⟨w1, w2, w3, w4⟩ := tE_w r hr
  have hq2 : (cnm 8, q.2.1, q.2.2) ∈ msgT := by rw [← h7]; exact hq
  rw [h5] at w2
  rw [h6] at w1 w2 w3 w4
  have ht : tOK (cnm 8) ix q.2.1 r.2.1 q.2.2 E := ⟨w1, w2, w3, hq2, w4⟩
  refine GW.end (.inr E) hP w1 (Nat.le_succ _) (Nat.le_add_right _ _) (fun g0 g1 => ?_)
  rcases Bool.or_eq_true_iff.mp h8 with h8 | h8
  · obtain ⟨h8, d9⟩ := and_t h8
    obtain ⟨d4, d6⟩ := and_t h8
    exact in_throw hd (dcB_ok h2) (dcB_ok d4) (dcB_ok d6) (dcB_ok d9) ht hh0 g0 g1
  · obtain ⟨h8, d9⟩ := and_t h8
    obtain ⟨d4, d6⟩ := and_t h8
    exact in_throwW hd (dcB_ok h2) (dcB_ok d4) (dcB_ok d6) (dcB_ok d9) ht hh0 g0 g1
theorem wci (ci : Nat) (h : ci < 12) {w : Nat} {q : MIT} (h2 : tbg w = some (Jvm.Cond.selects ((wcl.map (fun q => q.1)).getD ci "") q.1 q.1)) : ∃ C, wcl[ci]? = some C ∧ Jvm.Cond.selects C.1 q.1 q.1 ∈ lw_tb := by
  have hl : ci < wcl.length := h
  refine ⟨wcl[ci], List.getElem?_eq_getElem hl, ?_⟩
  have h3 := tbg_mem h2
  rw [List.getD_eq_getElem?_getD, List.getElem?_map, List.getElem?_eq_getElem hl] at h3
  exact h3
theorem wci0 (ci : Nat) (h : ci < 12) : ∃ C, wcl[ci]? = some C := by
  have hl : ci < wcl.length := h
  exact ⟨wcl[ci], List.getElem?_eq_getElem hl⟩
theorem ciB_ok {ci a : Nat} {z : List Nat} (h : ciB ci z = true) (hz : match (generalizing := false) z with | [] => True | _ => a < BIG) : ci < 11 ∨ (ci = 11 ∧ a < BIG) := by
  cases z with
  | nil => exact Or.inl (blt_ok h)
  | cons b l => exact Or.inr ⟨Nat.eq_of_beq_eq_true h, hz⟩
theorem iv_V {ix k np ci : Nat} {S : SpecT} {cst : Int32} {rtn : Nat} (h20 : own < 20) (hd : decode cc pc = .ok (.invokevirtual ix, 3)) (hS : okS2 d S) (hhk : hhOK (cnm own) hh h4) (hQ : (tV own).any (fun r => Nat.beq r.1 ix && Nat.beq r.2.1 k && Nat.beq r.2.2.1 np && Nat.beq r.2.2.2.1 ci) = true)
    (h : stepI S h4 rtn Post pc (.invokevirtual ix) (pc + 3) cst [6, k, np, ci] L st A (GW (cnm own) cc nL rt ini hh (d + 1) n0 w0 Post)) : GW (cnm own) cc nL rt ini hh (d + 1) n0 w0 Post pc L st A := by
  obtain ⟨r, hr, hQ⟩ := List.any_eq_true.mp hQ
  simp only [Bool.and_eq_true, Nat.beq_eq] at hQ
  obtain ⟨⟨⟨e1, e2⟩, e3⟩, e4⟩ := hQ
  obtain ⟨t1, t2, t3, t4, t5, t6, t7, t8⟩ := tV_ok own h20 r hr
  rw [e2] at t1 t2 t3 t4 t5 t6 t8
  rw [e1] at t4
  rw [e4] at t6 t7
  rw [e3] at t8
  have h : (match (generalizing := false) popN np st [] with
    | some (as, r) => (match as with
        | .ref b :: _ => hK A b = (10 + ci, 0)
        | _ => False) ∧ callP S h4 Post pc (pc + 3) L (GW (cnm own) cc nL rt ini hh (d + 1) n0 w0 Post) k as r A
    | none => False) := h
  split at h
  · rename_i as r9 e9
    obtain ⟨h0, h⟩ := h
    split at h0
    · rename_i b as'
      obtain ⟨x, x1, x2, x3⟩ := popN_ok np st [] _ r9 e9
      rw [List.append_nil] at x3
      exact GW.call t1 t2 hS hhk h (fun o1 A1 o A' a1 a2 a3 a4 a5 a6 a7 a8 a9 hM Kc => in_callV hd (mOK_all t1 t2) t3 (wci ci t7 t6) (tbg_mem t4) (tbg_mem t5) (by rw [t8, x1]) x2 x3 rfl h0 a1 a2 a3 hhk a4 a5 a6 a7 a8 a9 hM Kc)
    · exact h0.elim
  · exact h.elim
theorem iv_VU {ix k np ci : Nat} {S : SpecT} {cst : Int32} {rtn : Nat} (hd : decode cc pc = .ok (.invokevirtual ix, 3)) (hS : okS2 d S) (hhk : hhOK (cnm own) hh h4) (hQ : vuB own ix k np ci = true)
    (h : stepI S h4 rtn Post pc (.invokevirtual ix) (pc + 3) cst [6, k, np, ci] L st A (GW (cnm own) cc nL rt ini hh (d + 1) n0 w0 Post)) : GW (cnm own) cc nL rt ini hh (d + 1) n0 w0 Post pc L st A := by
  unfold vuB at hQ
  simp only [Bool.and_eq_true, Nat.beq_eq] at hQ
  obtain ⟨⟨⟨⟨e0, e1⟩, e2⟩, e3⟩, e4⟩ := hQ
  subst e0 e1 e2 e3 e4
  obtain ⟨t1, t2, t3, t4, t5, t6⟩ := tVU_ok
  have h : (match (generalizing := false) popN tVU.2.2.2.1 st [] with
    | some (as, r) => (match as with
        | .ref b :: _ => hK A b = (10 + tVU.2.2.2.2.1, 0)
        | _ => False) ∧ callP S h4 Post pc (pc + 3) L (GW (cnm tVU.1) cc nL rt ini hh (d + 1) n0 w0 Post) tVU.2.2.1 as r A
    | none => False) := h
  split at h
  · rename_i as r9 e9
    obtain ⟨h0, h⟩ := h
    split at h0
    · rename_i b as'
      obtain ⟨x, x1, x2, x3⟩ := popN_ok tVU.2.2.2.1 st [] _ r9 e9
      rw [List.append_nil] at x3
      exact GW.call (show 0 < tVU.2.2.1 by decide) (show tVU.2.2.1 < 173 by decide) hS hhk h (fun o1 A1 o A' a1 a2 a3 a4 a5 a6 a7 a8 a9 hM Kc => in_callVU (qx := mi tVU.2.2.2.2.2) hd (mOK_all (show 0 < tVU.2.2.1 by decide) (show tVU.2.2.1 < 173 by decide)) (mOK_all (show 0 < tVU.2.2.2.2.2 by decide) (show tVU.2.2.2.2.2 < 173 by decide)) t1 rfl ⟨_, rfl, tbg_mem t6⟩ (by decide) (tbg_mem t2) (tbg_mem t3) (tbg_mem t4) (tbg_mem t5) (by rw [tVU_np, x1]) x2 x3 rfl h0 a1 a2 a3 hhk a4 a5 a6 a7 a8 a9 hM Kc)
    · exact h0.elim
  · exact h.elim
theorem tU_ci : ∀ own, own < 20 → ∀ r ∈ tU own, r.2.2.2.1 = 10 := by decide +kernel
theorem iv_SU {ix k np ci : Nat} {S : SpecT} {cst : Int32} {rtn : Nat} (h20 : own < 20) (hd : decode cc pc = .ok (.invokespecial ix, 3)) (hS : okS2 d S) (hhk : hhOK (cnm own) hh h4) (hQ : (tU own).any (fun r => Nat.beq r.1 ix && Nat.beq r.2.1 k && Nat.beq r.2.2.1 np && Nat.beq r.2.2.2.1 ci) = true)
    (h : stepI S h4 rtn Post pc (.invokespecial ix) (pc + 3) cst [6, k, np, ci] L st A (GW (cnm own) cc nL rt ini hh (d + 1) n0 w0 Post)) : GW (cnm own) cc nL rt ini hh (d + 1) n0 w0 Post pc L st A := by
  obtain ⟨r, hr, hQ⟩ := List.any_eq_true.mp hQ
  simp only [Bool.and_eq_true, Nat.beq_eq] at hQ
  obtain ⟨⟨⟨e1, e2⟩, e3⟩, e4⟩ := hQ
  obtain ⟨t1, t2, t3, t4, t5, t6, t7, t8, t9, t10⟩ := tU_ok own h20 r hr
  have h11 : ci ≠ 11 := by
    rw [← e4, tU_ci own h20 r hr]
    decide
  rw [e2] at t1 t2 t3 t4 t5 t6 t7 t8 t10
  rw [e1] at t5
  rw [e4] at t9
  rw [e3] at t10
  have h : (match (generalizing := false) popN np st [] with
    | some (as, r) => (match as with
        | .ref b :: _ => hK A b = (10 + ci, 0)
        | _ => False) ∧ callP S h4 Post pc (pc + 3) L (GW (cnm own) cc nL rt ini hh (d + 1) n0 w0 Post) k as r A
    | none => False) := h
  split at h
  · rename_i as r9 e9
    obtain ⟨h0, h⟩ := h
    split at h0
    · rename_i b as'
      obtain ⟨x, x1, x2, x3⟩ := popN_ok np st [] _ r9 e9
      rw [List.append_nil] at x3
      exact GW.call t1 t2 hS hhk h (fun o1 A1 o A' a1 a2 a3 a4 a5 a6 a7 a8 a9 hM Kc => in_callSU hd (mOK_all t1 t2) t3 t4 (tbg_mem t5) (tbg_mem t6) (tbg_mem t7) (tbg_mem t8) (wci0 ci t9) h11 (by rw [t10, x1]) x2 x3 rfl h0 a1 a2 a3 hhk a4 a5 a6 a7 a8 a9 hM Kc)
    · exact h0.elim
  · exact h.elim
theorem iv_S {ix k np : Nat} {S : SpecT} {cst : Int32} {rtn : Nat} (h20 : own < 20) (hd : decode cc pc = .ok (.invokestatic ix, 3)) (hS : okS2 d S) (hhk : hhOK (cnm own) hh h4) (hQ : (tS own).any (fun r => Nat.beq r.1 ix && Nat.beq r.2.1 k && Nat.beq r.2.2.1 np) = true)
    (h : stepI S h4 rtn Post pc (.invokestatic ix) (pc + 3) cst [0, k, np] L st A (GW (cnm own) cc nL rt ini hh (d + 1) n0 w0 Post)) : GW (cnm own) cc nL rt ini hh (d + 1) n0 w0 Post pc L st A := by
  obtain ⟨r, hr, hQ⟩ := List.any_eq_true.mp hQ
  simp only [Bool.and_eq_true, Nat.beq_eq] at hQ
  obtain ⟨⟨e1, e2⟩, e3⟩ := hQ
  obtain ⟨t1, t2, t3, t4, t5⟩ := tS_ok own h20 r hr
  rw [e2] at t1 t2 t3 t4 t5
  rw [e1] at t3
  rw [e3] at t5
  have h : (match (generalizing := false) popN np st [] with
    | some (as, r) => callP S h4 Post pc (pc + 3) L (GW (cnm own) cc nL rt ini hh (d + 1) n0 w0 Post) k as r A
    | none => False) := h
  split at h
  · rename_i as r9 e9
    obtain ⟨x, x1, x2, x3⟩ := popN_ok np st [] _ r9 e9
    rw [List.append_nil] at x3
    exact GW.call t1 t2 hS hhk h (fun o1 A1 o A' a1 a2 a3 a4 a5 a6 a7 a8 a9 hM Kc => in_callS hd (mOK_all t1 t2) (tbg_mem t3) (tbg_mem t4) (by rw [t5, x1]) x2 x3 a1 a2 a3 hhk a4 a5 a6 a7 a8 a9 hM Kc)
  · exact h.elim
theorem iv_I {ix k np : Nat} {S : SpecT} {cst : Int32} {rtn : Nat} (h20 : own < 20) (hd : decode cc pc = .ok (.invokespecial ix, 3)) (hS : okS2 d S) (hhk : hhOK (cnm own) hh h4) (hQ : ((tI own).any (fun r => Nat.beq r.1 ix && Nat.beq r.2.1 k && Nat.beq r.2.2.1 np) || (tN own).any (fun r => Nat.beq r.1 ix && Nat.beq r.2.1 k && Nat.beq r.2.2.1 np)) = true)
    (h : stepI S h4 rtn Post pc (.invokespecial ix) (pc + 3) cst [7, k, np] L st A (GW (cnm own) cc nL rt ini hh (d + 1) n0 w0 Post)) : GW (cnm own) cc nL rt ini hh (d + 1) n0 w0 Post pc L st A := by
  have h : (match (generalizing := false) popN np st [] with
    | some (.ref b :: as, r) => callP S h4 Post pc (pc + 3) L (GW (cnm own) cc nL rt ini hh (d + 1) n0 w0 Post) k (.ref b :: as) r A
    | _ => False) := h
  split at h
  · rename_i b as' r9 e9
    obtain ⟨x, x1, x2, x3⟩ := popN_ok np st [] _ r9 e9
    rw [List.append_nil] at x3
    rcases Bool.or_eq_true_iff.mp hQ with hQ | hQ
    · obtain ⟨r, hr, hQ⟩ := List.any_eq_true.mp hQ
      simp only [Bool.and_eq_true, Nat.beq_eq] at hQ
      obtain ⟨⟨e1, e2⟩, e3⟩ := hQ
      obtain ⟨t1, t2, t3, t4, t5, t6, t7, t8⟩ := tI_ok own h20 r hr
      rw [e2] at t1 t2 t3 t4 t5 t6 t7 t8
      rw [e1] at t6
      rw [e3] at t8
      exact GW.call t1 t2 hS hhk h (fun o1 A1 o A' a1 a2 a3 a4 a5 a6 a7 a8 a9 hM Kc => in_callI hd (mOK_all t1 t2) t3 t4 t5 (tbg_mem t6) (tbg_mem t7) (by rw [t8, x1]) x2 x3 rfl a1 a2 a3 hhk a4 a5 a6 a7 a8 a9 hM Kc)
    · obtain ⟨r, hr, hQ⟩ := List.any_eq_true.mp hQ
      simp only [Bool.and_eq_true, Nat.beq_eq] at hQ
      obtain ⟨⟨e1, e2⟩, e3⟩ := hQ
      obtain ⟨t1, t2, t3, t4, t5, t6, t7, t8⟩ := tN_ok own h20 r hr
      rw [e2] at t1 t2 t3 t4 t5 t6 t7 t8
      rw [e1] at t6
      rw [e3] at t8
      exact GW.call t1 t2 hS hhk h (fun o1 A1 o A' a1 a2 a3 a4 a5 a6 a7 a8 a9 hM Kc => in_callIN hd (mOK_all t1 t2) t3 t4 t5 (tbg_mem t6) (tbg_mem t7) (by rw [t8, x1]) x2 x3 rfl a1 a2 a3 hhk a4 a5 a6 a7 a8 a9 hM Kc)
  · exact h.elim
theorem iv_max {ix : Nat} {S : SpecT} {cst : Int32} {rtn : Nat} (h20 : own < 20) (hd : decode cc pc = .ok (.invokestatic ix, 3)) (hQ : (tM3 own).any (fun r => Nat.beq r.1 ix) = true)
    (h : stepI S h4 rtn Post pc (.invokestatic ix) (pc + 3) cst [3] L st A (GW (cnm own) cc nL rt ini hh (d + 1) n0 w0 Post)) : GW (cnm own) cc nL rt ini hh (d + 1) n0 w0 Post pc L st A := by
  have hl : Jvm.Cond.methodLink (cnm own) ix Lib.Math.max.name ∈ lw_tb := by
    obtain ⟨r, hr, h2⟩ := List.any_eq_true.mp hQ
    have h9 := tM3_ok own h20 r hr
    rw [Nat.eq_of_beq_eq_true h2] at h9
    exact tbg_mem h9
  have h : (match (generalizing := false) st with
    | .int w :: .int v :: r => cond (Nat.ble (catS r) 8) (GW (cnm own) cc nL rt ini hh (d + 1) n0 w0 Post (pc + 3) L (.int (if v < w then w else v) :: r) A) False
    | _ => False) := h
  split at h
  · obtain ⟨e, h⟩ := cond_t h
    exact h.go (Nat.le_refl _) (Nat.le_refl _) (fun g0 g1 o A' l1 l2 K => in_max hd ⟨hl, tbg_mem tM3_w.1, tbg_mem tM3_w.2.1, tbg_mem tM3_w.2.2⟩ (Nat.le_of_ble_eq_true e) l1 l2 K)
  · exact h.elim
theorem iv_min {ix : Nat} {S : SpecT} {cst : Int32} {rtn : Nat} (h20 : own < 20) (hd : decode cc pc = .ok (.invokestatic ix, 3)) (hQ : (tM4 own).any (fun r => Nat.beq r.1 ix) = true)
    (h : stepI S h4 rtn Post pc (.invokestatic ix) (pc + 3) cst [4] L st A (GW (cnm own) cc nL rt ini hh (d + 1) n0 w0 Post)) : GW (cnm own) cc nL rt ini hh (d + 1) n0 w0 Post pc L st A := by
  have hl : Jvm.Cond.methodLink (cnm own) ix Lib.Math.min.name ∈ lw_tb := by
    obtain ⟨r, hr, h2⟩ := List.any_eq_true.mp hQ
    have h9 := tM4_ok own h20 r hr
    rw [Nat.eq_of_beq_eq_true h2] at h9
    exact tbg_mem h9
  have h : (match (generalizing := false) st with
    | .int w :: .int v :: r => cond (Nat.ble (catS r) 8) (GW (cnm own) cc nL rt ini hh (d + 1) n0 w0 Post (pc + 3) L (.int (if w < v then w else v) :: r) A) False
    | _ => False) := h
  split at h
  · obtain ⟨e, h⟩ := cond_t h
    exact h.go (Nat.le_refl _) (Nat.le_refl _) (fun g0 g1 o A' l1 l2 K => in_min hd ⟨hl, tbg_mem tM4_w.1, tbg_mem tM4_w.2.1, tbg_mem tM4_w.2.2⟩ (Nat.le_of_ble_eq_true e) l1 l2 K)
  · exact h.elim
theorem iv_abs {ix : Nat} {S : SpecT} {cst : Int32} {rtn : Nat} (h20 : own < 20) (hd : decode cc pc = .ok (.invokestatic ix, 3)) (hQ : (tM5 own).any (fun r => Nat.beq r.1 ix) = true)
    (h : stepI S h4 rtn Post pc (.invokestatic ix) (pc + 3) cst [5] L st A (GW (cnm own) cc nL rt ini hh (d + 1) n0 w0 Post)) : GW (cnm own) cc nL rt ini hh (d + 1) n0 w0 Post pc L st A := by
  have hl : Jvm.Cond.methodLink (cnm own) ix Lib.Math.abs.name ∈ lw_tb := by
    obtain ⟨r, hr, h2⟩ := List.any_eq_true.mp hQ
    have h9 := tM5_ok own h20 r hr
    rw [Nat.eq_of_beq_eq_true h2] at h9
    exact tbg_mem h9
  have h : (match (generalizing := false) st with
    | .int v :: r => cond (Nat.ble (catS r) 8) (GW (cnm own) cc nL rt ini hh (d + 1) n0 w0 Post (pc + 3) L (.int (if 0 ≤ v then v else 0 - v) :: r) A) False
    | _ => False) := h
  split at h
  · obtain ⟨e, h⟩ := cond_t h
    exact h.go (Nat.le_refl _) (Nat.le_refl _) (fun g0 g1 o A' l1 l2 K => in_abs hd ⟨hl, tbg_mem tM5_w.1, tbg_mem tM5_w.2.1, tbg_mem tM5_w.2.2⟩ (Nat.le_of_ble_eq_true e) l1 l2 K)
  · exact h.elim
theorem iv_objI {ix : Nat} {S : SpecT} {cst : Int32} {rtn : Nat} (h20 : own < 20) (hd : decode cc pc = .ok (.invokespecial ix, 3)) (hQ : (tO own).any (fun r => Nat.beq r.1 ix) = true)
    (h : stepI S h4 rtn Post pc (.invokespecial ix) (pc + 3) cst [1] L st A (GW (cnm own) cc nL rt ini hh (d + 1) n0 w0 Post)) : GW (cnm own) cc nL rt ini hh (d + 1) n0 w0 Post pc L st A := by
  have hl : Jvm.Cond.methodLink (cnm own) ix Lib.objectInit ∈ lw_tb := by
    obtain ⟨r, hr, h2⟩ := List.any_eq_true.mp hQ
    have h9 := tO_ok own h20 r hr
    rw [Nat.eq_of_beq_eq_true h2] at h9
    exact tbg_mem h9
  have h : (match (generalizing := false) st with
    | .ref _ :: r => cond (Nat.ble (catS r) 8) (GW (cnm own) cc nL rt ini hh (d + 1) n0 w0 Post (pc + 3) L r A) False
    | _ => False) := h
  split at h
  · obtain ⟨e, h⟩ := cond_t h
    exact h.same rfl rfl (fun o A' K => in_objInit hd ⟨hl, tbg_mem tO_w.1, tbg_mem tO_w.2⟩ (Nat.le_of_ble_eq_true e) K)
  · exact h.elim
theorem iv_copy {ix : Nat} {S : SpecT} {cst : Int32} {rtn : Nat} (h20 : own < 20) (hd : decode cc pc = .ok (.invokestatic ix, 3)) (hI9 : (tC own).any (fun r => Nat.beq r.1 ix) = true)
    (h : stepI S h4 rtn Post pc (.invokestatic ix) (pc + 3) cst [2] L st A (GW (cnm own) cc nL rt ini hh (d + 1) n0 w0 Post)) : GW (cnm own) cc nL rt ini hh (d + 1) n0 w0 Post pc L st A := by
  have hl : Jvm.Cond.methodLink (cnm own) ix arraycopyName ∈ lw_tb := by
    obtain ⟨r, hr, h2⟩ := List.any_eq_true.mp hI9
    have h9 := tC_ok own h20 r hr
    rw [Nat.eq_of_beq_eq_true h2] at h9
    exact tbg_mem h9
  match st, h with
  | [.int n, .int dp, .ref d9, .int sp, .ref s9], h =>
    obtain ⟨t, m0, t1, m1, k1, k2, hc, b1, b2, b3, b4, b5, hf, h⟩ := h
    have hl2 := And.intro hl (And.intro (tbg_mem tC_w.1) (And.intro (tbg_mem tC_w.2.1) (tbg_mem tC_w.2.2)))
    rcases hc with ⟨rfl, rfl⟩ | ⟨rfl, rfl⟩ | ⟨ht, rfl⟩
    · exact h.same rfl rfl (fun o A' K => in_copy (z := 0) (ty := .int) hd hl2 k1 k2 (fun B CS dA => celA_1 k1) (fun A1 e B CS dA => celA_1 (by rw [e]; exact k2)) (fun dA => rfl) rfl ⟨by decide, by decide, by decide⟩ b1 b2 b3 b4 b5 (fun i hi => rfl) K)
    · exact h.same rfl rfl (fun o A' K => in_copy (z := 2) (ty := .char) hd hl2 k1 k2 (fun B CS dA => celA_3 k1) (fun A1 e B CS dA => celA_3 (by rw [e]; exact k2)) (fun dA => rfl) rfl ⟨by decide, by decide, by decide⟩ b1 b2 b3 b4 b5 (fun i hi => (fit_char (hf i hi)).2) K)
    · have hf2 : ∀ i, i < n.toNatClampNeg → vp_nar .byte (hI A s9 (sp.toNatClampNeg + i)) = hI A s9 (sp.toNatClampNeg + i) := by
        intro i hi
        have h9 := hf i hi
        rcases ht with rfl | rfl <;> exact h9
      rcases ht with rfl | rfl
      · exact h.same rfl rfl (fun o A' K => in_copy (z := 3) (ty := .byte) hd hl2 k1 k2 (fun B CS dA => celA_4 k1) (fun A1 e B CS dA => celA_4 (by rw [e]; exact k2)) (fun dA => rfl) rfl ⟨by decide, by decide, by decide⟩ b1 b2 b3 b4 b5 (fun i hi => (fit_byte (hf2 i hi)).2) K)
      · exact h.go (Nat.le_refl _) (Nat.le_refl _) (fun g0 _ o A' _ _ K => in_copyK hd hl2 g0 k1 k2 b1 b2 b3 b4 b5 (fun i hi => (fit_byte (hf2 i hi)).2) K)
  | [], h => exact h.elim
  | .long _ :: _, h => exact h.elim
  | .float _ :: _, h => exact h.elim
  | .double _ :: _, h => exact h.elim
  | .ref _ :: _, h => exact h.elim
  | .retAddr _ :: _, h => exact h.elim
  | .null :: _, h => exact h.elim
  | [.int _], h => exact h.elim
  | .int _ :: .long _ :: _, h => exact h.elim
  | .int _ :: .float _ :: _, h => exact h.elim
  | .int _ :: .double _ :: _, h => exact h.elim
  | .int _ :: .ref _ :: _, h => exact h.elim
  | .int _ :: .retAddr _ :: _, h => exact h.elim
  | .int _ :: .null :: _, h => exact h.elim
  | [.int _, .int _], h => exact h.elim
  | .int _ :: .int _ :: .int _ :: _, h => exact h.elim
  | .int _ :: .int _ :: .long _ :: _, h => exact h.elim
  | .int _ :: .int _ :: .float _ :: _, h => exact h.elim
  | .int _ :: .int _ :: .double _ :: _, h => exact h.elim
  | .int _ :: .int _ :: .retAddr _ :: _, h => exact h.elim
  | .int _ :: .int _ :: .null :: _, h => exact h.elim
  | [.int _, .int _, .ref _], h => exact h.elim
  | .int _ :: .int _ :: .ref _ :: .long _ :: _, h => exact h.elim
  | .int _ :: .int _ :: .ref _ :: .float _ :: _, h => exact h.elim
  | .int _ :: .int _ :: .ref _ :: .double _ :: _, h => exact h.elim
  | .int _ :: .int _ :: .ref _ :: .ref _ :: _, h => exact h.elim
  | .int _ :: .int _ :: .ref _ :: .retAddr _ :: _, h => exact h.elim
  | .int _ :: .int _ :: .ref _ :: .null :: _, h => exact h.elim
  | [.int _, .int _, .ref _, .int _], h => exact h.elim
  | .int _ :: .int _ :: .ref _ :: .int _ :: .int _ :: _, h => exact h.elim
  | .int _ :: .int _ :: .ref _ :: .int _ :: .long _ :: _, h => exact h.elim
  | .int _ :: .int _ :: .ref _ :: .int _ :: .float _ :: _, h => exact h.elim
  | .int _ :: .int _ :: .ref _ :: .int _ :: .double _ :: _, h => exact h.elim
  | .int _ :: .int _ :: .ref _ :: .int _ :: .retAddr _ :: _, h => exact h.elim
  | .int _ :: .int _ :: .ref _ :: .int _ :: .null :: _, h => exact h.elim
  | .int _ :: .int _ :: .ref _ :: .int _ :: .ref _ :: _ :: _, h => exact h.elim
theorem step_ok {x : List Nat} {cst : Int32} {i : Instr} {rtn : Nat} {h0 : Bool} {S : SpecT} (h20 : own < 20) (hS : okS2 d S) (hhk : hhOK (cnm own) hh h4) (hh0 : h0 = true → hh = []) (hd : decode cc pc = .ok (i, nx - pc)) (hQ : rI own cc nL rt rtn ini h0 pc i nx cst x = true)
    (h : stepI S h4 rtn Post pc i nx cst x L st A (GW (cnm own) cc nL rt ini hh (d + 1) n0 w0 Post)) : GW (cnm own) cc nL rt ini hh (d + 1) n0 w0 Post pc L st A := by
  cases i with
  | iload k =>
    replace hQ : (lnX pc nx 2 && isX x k) = true := hQ
    obtain ⟨h1, h2⟩ := and_t hQ
    obtain ⟨l, rfl⟩ := isX_ok h2
    obtain rfl := lnX_ok h1
    rw [Nat.add_sub_cancel_left] at hd
    have h : (match (generalizing := false) nth L k with
      | some (some (.int v)) => GW (cnm own) cc nL rt ini hh (d + 1) n0 w0 Post (pc + 2) L (.int v :: st) A
      
      | _ => False) := h
    split at h
    · rename_i v e
      exact h.same rfl rfl (fun o A' K => in_iload hd e K)
    · exact h.elim
  | iload_n k =>
    replace hQ : (lnX pc nx 1 && isX x k.val) = true := hQ
    obtain ⟨h1, h2⟩ := and_t hQ
    obtain ⟨l, rfl⟩ := isX_ok h2
    obtain rfl := lnX_ok h1
    rw [Nat.add_sub_cancel_left] at hd
    have h : (match (generalizing := false) nth L k.val with
      | some (some (.int v)) => GW (cnm own) cc nL rt ini hh (d + 1) n0 w0 Post (pc + 1) L (.int v :: st) A
      
      | _ => False) := h
    split at h
    · rename_i v e
      exact h.same rfl rfl (fun o A' K => in_iload_n hd e K)
    · exact h.elim
  | aload k =>
    replace hQ : (lnX pc nx 2 && isX x k) = true := hQ
    obtain ⟨h1, h2⟩ := and_t hQ
    obtain ⟨l, rfl⟩ := isX_ok h2
    obtain rfl := lnX_ok h1
    rw [Nat.add_sub_cancel_left] at hd
    have h : (match (generalizing := false) nth L k with
      | some (some (.ref v)) => GW (cnm own) cc nL rt ini hh (d + 1) n0 w0 Post (pc + 2) L (.ref v :: st) A
      | some (some .null) => GW (cnm own) cc nL rt ini hh (d + 1) n0 w0 Post (pc + 2) L (.null :: st) A
      | _ => False) := h
    split at h
    · rename_i v e
      exact h.same rfl rfl (fun o A' K => in_aload hd e K)
    · rename_i e
      exact h.same rfl rfl (fun o A' K => in_aloadN hd e K)
    · exact h.elim
  | aload_n k =>
    replace hQ : (lnX pc nx 1 && isX x k.val) = true := hQ
    obtain ⟨h1, h2⟩ := and_t hQ
    obtain ⟨l, rfl⟩ := isX_ok h2
    obtain rfl := lnX_ok h1
    rw [Nat.add_sub_cancel_left] at hd
    have h : (match (generalizing := false) nth L k.val with
      | some (some (.ref v)) => GW (cnm own) cc nL rt ini hh (d + 1) n0 w0 Post (pc + 1) L (.ref v :: st) A
      | some (some .null) => GW (cnm own) cc nL rt ini hh (d + 1) n0 w0 Post (pc + 1) L (.null :: st) A
      | _ => False) := h
    split at h
    · rename_i v e
      exact h.same rfl rfl (fun o A' K => in_aload_n hd e K)
    · rename_i e
      exact h.same rfl rfl (fun o A' K => in_aload_nN hd e K)
    · exact h.elim
  | lload k =>
    replace hQ : (lnX pc nx 2 && isX x k) = true := hQ
    obtain ⟨h1, h2⟩ := and_t hQ
    obtain ⟨l, rfl⟩ := isX_ok h2
    obtain rfl := lnX_ok h1
    rw [Nat.add_sub_cancel_left] at hd
    have h : (match (generalizing := false) nth L k with
      | some (some (.long v)) => GW (cnm own) cc nL rt ini hh (d + 1) n0 w0 Post (pc + 2) L (.long v :: st) A
      
      | _ => False) := h
    split at h
    · rename_i v e
      exact h.same rfl rfl (fun o A' K => in_lload hd e K)
    · exact h.elim
  | lload_n k =>
    replace hQ : (lnX pc nx 1 && isX x k.val) = true := hQ
    obtain ⟨h1, h2⟩ := and_t hQ
    obtain ⟨l, rfl⟩ := isX_ok h2
    obtain rfl := lnX_ok h1
    rw [Nat.add_sub_cancel_left] at hd
    have h : (match (generalizing := false) nth L k.val with
      | some (some (.long v)) => GW (cnm own) cc nL rt ini hh (d + 1) n0 w0 Post (pc + 1) L (.long v :: st) A
      
      | _ => False) := h
    split at h
    · rename_i v e
      exact h.same rfl rfl (fun o A' K => in_lload_n hd e K)
    · exact h.elim
  | dload k =>
    replace hQ : (lnX pc nx 2 && isX x k) = true := hQ
    obtain ⟨h1, h2⟩ := and_t hQ
    obtain ⟨l, rfl⟩ := isX_ok h2
    obtain rfl := lnX_ok h1
    rw [Nat.add_sub_cancel_left] at hd
    have h : (match (generalizing := false) nth L k with
      | some (some (.double v)) => GW (cnm own) cc nL rt ini hh (d + 1) n0 w0 Post (pc + 2) L (.double v :: st) A
      
      | _ => False) := h
    split at h
    · rename_i v e
      exact h.same rfl rfl (fun o A' K => in_dload hd e K)
    · exact h.elim
  | fload k =>
    replace hQ : (lnX pc nx 2 && isX x k) = true := hQ
    obtain ⟨h1, h2⟩ := and_t hQ
    obtain ⟨l, rfl⟩ := isX_ok h2
    obtain rfl := lnX_ok h1
    rw [Nat.add_sub_cancel_left] at hd
    have h : (match (generalizing := false) nth L k with
      | some (some (.float v)) => GW (cnm own) cc nL rt ini hh (d + 1) n0 w0 Post (pc + 2) L (.float v :: st) A
      
      | _ => False) := h
    split at h
    · rename_i v e
      exact h.same rfl rfl (fun o A' K => in_fload hd e K)
    · exact h.elim
  | istore k =>
    replace hQ : (lnX pc nx 2 && isX x k && Nat.blt k nL) = true := hQ
    obtain ⟨hQ, h3⟩ := and_t hQ
    obtain ⟨h1, h2⟩ := and_t hQ
    have h3 := blt_ok h3
    obtain ⟨l, rfl⟩ := isX_ok h2
    obtain rfl := lnX_ok h1
    rw [Nat.add_sub_cancel_left] at hd
    match st, h with
    | .int v :: r, h =>
      have h : cond (okS L k) (GW (cnm own) cc nL rt ini hh (d + 1) n0 w0 Post (pc + 2) (L.set k (some (.int v))) r A) False := h
      obtain ⟨e, h⟩ := cond_t h
      exact h.same rfl rfl (fun o A' K => in_istore hd h3 e K)
    | [], h => exact h.elim
    | .null :: _, h => exact h.elim
    | .long _ :: _, h => exact h.elim
    | .float _ :: _, h => exact h.elim
    | .double _ :: _, h => exact h.elim
    | .ref _ :: _, h => exact h.elim
    | .retAddr _ :: _, h => exact h.elim
  | istore_n k =>
    replace hQ : (lnX pc nx 1 && isX x k.val && Nat.blt k.val nL) = true := hQ
    obtain ⟨hQ, h3⟩ := and_t hQ
    obtain ⟨h1, h2⟩ := and_t hQ
    have h3 := blt_ok h3
    obtain ⟨l, rfl⟩ := isX_ok h2
    obtain rfl := lnX_ok h1
    rw [Nat.add_sub_cancel_left] at hd
    match st, h with
    | .int v :: r, h =>
      have h : cond (okS L k.val) (GW (cnm own) cc nL rt ini hh (d + 1) n0 w0 Post (pc + 1) (L.set k.val (some (.int v))) r A) False := h
      obtain ⟨e, h⟩ := cond_t h
      exact h.same rfl rfl (fun o A' K => in_istore_n hd h3 e K)
    | [], h => exact h.elim
    | .null :: _, h => exact h.elim
    | .long _ :: _, h => exact h.elim
    | .float _ :: _, h => exact h.elim
    | .double _ :: _, h => exact h.elim
    | .ref _ :: _, h => exact h.elim
    | .retAddr _ :: _, h => exact h.elim
  | astore k =>
    replace hQ : (lnX pc nx 2 && isX x k && Nat.blt k nL) = true := hQ
    obtain ⟨hQ, h3⟩ := and_t hQ
    obtain ⟨h1, h2⟩ := and_t hQ
    have h3 := blt_ok h3
    obtain ⟨l, rfl⟩ := isX_ok h2
    obtain rfl := lnX_ok h1
    rw [Nat.add_sub_cancel_left] at hd
    match st, h with
    | .ref v :: r, h =>
      have h : cond (okS L k) (GW (cnm own) cc nL rt ini hh (d + 1) n0 w0 Post (pc + 2) (L.set k (some (.ref v))) r A) False := h
      obtain ⟨e, h⟩ := cond_t h
      exact h.same rfl rfl (fun o A' K => in_astore hd h3 e K)
    | .retAddr v :: r, h =>
      have h : cond (okS L k) (GW (cnm own) cc nL rt ini hh (d + 1) n0 w0 Post (pc + 2) (L.set k none) r A) False := h
      obtain ⟨e, h⟩ := cond_t h
      exact h.same rfl rfl (fun o A' K => in_astoreJ hd h3 e K)
    | [], h => exact h.elim
    | .null :: _, h => exact h.elim
    | .int _ :: _, h => exact h.elim
    | .long _ :: _, h => exact h.elim
    | .float _ :: _, h => exact h.elim
    | .double _ :: _, h => exact h.elim
  | astore_n k =>
    replace hQ : (lnX pc nx 1 && isX x k.val && Nat.blt k.val nL) = true := hQ
    obtain ⟨hQ, h3⟩ := and_t hQ
    obtain ⟨h1, h2⟩ := and_t hQ
    have h3 := blt_ok h3
    obtain ⟨l, rfl⟩ := isX_ok h2
    obtain rfl := lnX_ok h1
    rw [Nat.add_sub_cancel_left] at hd
    match st, h with
    | .ref v :: r, h =>
      have h : cond (okS L k.val) (GW (cnm own) cc nL rt ini hh (d + 1) n0 w0 Post (pc + 1) (L.set k.val (some (.ref v))) r A) False := h
      obtain ⟨e, h⟩ := cond_t h
      exact h.same rfl rfl (fun o A' K => in_astore_n hd h3 e K)
    | .retAddr v :: r, h =>
      have h : cond (okS L k.val) (GW (cnm own) cc nL rt ini hh (d + 1) n0 w0 Post (pc + 1) (L.set k.val none) r A) False := h
      obtain ⟨e, h⟩ := cond_t h
      exact h.same rfl rfl (fun o A' K => in_astore_nJ hd h3 e K)
    | [], h => exact h.elim
    | .null :: _, h => exact h.elim
    | .int _ :: _, h => exact h.elim
    | .long _ :: _, h => exact h.elim
    | .float _ :: _, h => exact h.elim
    | .double _ :: _, h => exact h.elim
  | lstore k =>
    replace hQ : (lnX pc nx 2 && isX x k && Nat.blt (k + 1) nL) = true := hQ
    obtain ⟨hQ, h3⟩ := and_t hQ
    obtain ⟨h1, h2⟩ := and_t hQ
    have h3 := blt_ok h3
    obtain ⟨l, rfl⟩ := isX_ok h2
    obtain rfl := lnX_ok h1
    rw [Nat.add_sub_cancel_left] at hd
    match st, h with
    | .long v :: r, h =>
      have h : cond (okS L k) (GW (cnm own) cc nL rt ini hh (d + 1) n0 w0 Post (pc + 2) ((L.set k (some (.long v))).set (k + 1) none) r A) False := h
      obtain ⟨e, h⟩ := cond_t h
      exact h.same rfl rfl (fun o A' K => in_lstore hd h3 e K)
    | [], h => exact h.elim
    | .null :: _, h => exact h.elim
    | .int _ :: _, h => exact h.elim
    | .float _ :: _, h => exact h.elim
    | .double _ :: _, h => exact h.elim
    | .ref _ :: _, h => exact h.elim
    | .retAddr _ :: _, h => exact h.elim
  | lstore_n k =>
    replace hQ : (lnX pc nx 1 && isX x k.val && Nat.blt (k.val + 1) nL) = true := hQ
    obtain ⟨hQ, h3⟩ := and_t hQ
    obtain ⟨h1, h2⟩ := and_t hQ
    have h3 := blt_ok h3
    obtain ⟨l, rfl⟩ := isX_ok h2
    obtain rfl := lnX_ok h1
    rw [Nat.add_sub_cancel_left] at hd
    match st, h with
    | .long v :: r, h =>
      have h : cond (okS L k.val) (GW (cnm own) cc nL rt ini hh (d + 1) n0 w0 Post (pc + 1) ((L.set k.val (some (.long v))).set (k.val + 1) none) r A) False := h
      obtain ⟨e, h⟩ := cond_t h
      exact h.same rfl rfl (fun o A' K => in_lstore_n hd h3 e K)
    | [], h => exact h.elim
    | .null :: _, h => exact h.elim
    | .int _ :: _, h => exact h.elim
    | .float _ :: _, h => exact h.elim
    | .double _ :: _, h => exact h.elim
    | .ref _ :: _, h => exact h.elim
    | .retAddr _ :: _, h => exact h.elim
  | dstore k =>
    replace hQ : (lnX pc nx 2 && isX x k && Nat.blt (k + 1) nL) = true := hQ
    obtain ⟨hQ, h3⟩ := and_t hQ
    obtain ⟨h1, h2⟩ := and_t hQ
    have h3 := blt_ok h3
    obtain ⟨l, rfl⟩ := isX_ok h2
    obtain rfl := lnX_ok h1
    rw [Nat.add_sub_cancel_left] at hd
    match st, h with
    | .double v :: r, h =>
      have h : cond (okS L k) (GW (cnm own) cc nL rt ini hh (d + 1) n0 w0 Post (pc + 2) ((L.set k (some (.double v))).set (k + 1) none) r A) False := h
      obtain ⟨e, h⟩ := cond_t h
      exact h.same rfl rfl (fun o A' K => in_dstore hd h3 e K)
    | [], h => exact h.elim
    | .null :: _, h => exact h.elim
    | .int _ :: _, h => exact h.elim
    | .long _ :: _, h => exact h.elim
    | .float _ :: _, h => exact h.elim
    | .ref _ :: _, h => exact h.elim
    | .retAddr _ :: _, h => exact h.elim
  | fstore k =>
    replace hQ : (lnX pc nx 2 && isX x k && Nat.blt k nL) = true := hQ
    obtain ⟨hQ, h3⟩ := and_t hQ
    obtain ⟨h1, h2⟩ := and_t hQ
    have h3 := blt_ok h3
    obtain ⟨l, rfl⟩ := isX_ok h2
    obtain rfl := lnX_ok h1
    rw [Nat.add_sub_cancel_left] at hd
    match st, h with
    | .float v :: r, h =>
      have h : cond (okS L k) (GW (cnm own) cc nL rt ini hh (d + 1) n0 w0 Post (pc + 2) (L.set k (some (.float v))) r A) False := h
      obtain ⟨e, h⟩ := cond_t h
      exact h.same rfl rfl (fun o A' K => in_fstore hd h3 e K)
    | [], h => exact h.elim
    | .null :: _, h => exact h.elim
    | .int _ :: _, h => exact h.elim
    | .long _ :: _, h => exact h.elim
    | .double _ :: _, h => exact h.elim
    | .ref _ :: _, h => exact h.elim
    | .retAddr _ :: _, h => exact h.elim
  | iinc k n =>
    replace hQ : (lnX pc nx 3 && isX x k && Nat.blt k nL && decide (Int32.ofInt n = cst)) = true := hQ
    obtain ⟨hQ, h4⟩ := and_t hQ
    obtain ⟨hQ, h3⟩ := and_t hQ
    obtain ⟨h1, h2⟩ := and_t hQ
    have h3 := blt_ok h3
    have h4 := of_decide_eq_true h4
    obtain ⟨l, rfl⟩ := isX_ok h2
    obtain rfl := lnX_ok h1
    rw [Nat.add_sub_cancel_left] at hd
    have h : (match (generalizing := false) nth L k with
      | some (some (.int v)) => cond (okS L k) (GW (cnm own) cc nL rt ini hh (d + 1) n0 w0 Post (pc + 3) (L.set k (some (.int (v + cst)))) st A) False
      | _ => False) := h
    split at h
    · rename_i v e
      obtain ⟨e2, h⟩ := cond_t h
      exact h.same rfl rfl (fun o A' K => in_iinc hd h4 h3 e2 e K)
    · exact h.elim
  | goto off =>
    replace hQ : (lnX pc nx 3 && tgX pc off x) = true := hQ
    obtain ⟨h1, h2⟩ := and_t hQ
    obtain ⟨t, l, rfl, ht⟩ := tgX_ok h2
    obtain rfl := lnX_ok h1
    rw [Nat.add_sub_cancel_left] at hd
    have h : GW (cnm own) cc nL rt ini hh (d + 1) n0 w0 Post t L st A := h
    exact h.same rfl rfl (fun o A' K => in_goto hd ht K)
  | ifCond c off =>
    replace hQ : (lnX pc nx 3 && tgX pc off x) = true := hQ
    obtain ⟨h1, h2⟩ := and_t hQ
    obtain ⟨t, l, rfl, ht⟩ := tgX_ok h2
    obtain rfl := lnX_ok h1
    rw [Nat.add_sub_cancel_left] at hd
    match st, h with
    | .int v :: r, h =>
      have h : (cmpP c v 0 → GW (cnm own) cc nL rt ini hh (d + 1) n0 w0 Post t L r A) ∧ (¬ cmpP c v 0 → GW (cnm own) cc nL rt ini hh (d + 1) n0 w0 Post (pc + 3) L r A) := h
      rcases Classical.em (cmpP c v 0) with hc | hc
      · exact (h.1 hc).same rfl rfl (fun o A' K => in_if hd ht (fun _ => K) (fun q => absurd hc q))
      · exact (h.2 hc).same rfl rfl (fun o A' K => in_if hd ht (fun q => absurd q hc) (fun _ => K))
    | [], h => exact h.elim
    | .null :: _, h => exact h.elim
    | .long _ :: _, h => exact h.elim
    | .float _ :: _, h => exact h.elim
    | .double _ :: _, h => exact h.elim
    | .ref _ :: _, h => exact h.elim
    | .retAddr _ :: _, h => exact h.elim
  | if_icmp c off =>
    replace hQ : (lnX pc nx 3 && tgX pc off x) = true := hQ
    obtain ⟨h1, h2⟩ := and_t hQ
    obtain ⟨t, l, rfl, ht⟩ := tgX_ok h2
    obtain rfl := lnX_ok h1
    rw [Nat.add_sub_cancel_left] at hd
    match st, h with
    | .int w :: .int v :: r, h =>
      have h : (cmpP c v w → GW (cnm own) cc nL rt ini hh (d + 1) n0 w0 Post t L r A) ∧ (¬ cmpP c v w → GW (cnm own) cc nL rt ini hh (d + 1) n0 w0 Post (pc + 3) L r A) := h
      rcases Classical.em (cmpP c v w) with hc | hc
      · exact (h.1 hc).same rfl rfl (fun o A' K => in_icmp hd ht (fun _ => K) (fun q => absurd hc q))
      · exact (h.2 hc).same rfl rfl (fun o A' K => in_icmp hd ht (fun q => absurd q hc) (fun _ => K))
    | [], h => exact h.elim
    | [.int _], h => exact h.elim
    | .int _ :: .long _ :: _, h => exact h.elim
    | .int _ :: .float _ :: _, h => exact h.elim
    | .int _ :: .double _ :: _, h => exact h.elim
    | .int _ :: .ref _ :: _, h => exact h.elim
    | .int _ :: .retAddr _ :: _, h => exact h.elim
    | .int _ :: .null :: _, h => exact h.elim
    | .long _ :: _, h => exact h.elim
    | .float _ :: _, h => exact h.elim
    | .double _ :: _, h => exact h.elim
    | .ref _ :: _, h => exact h.elim
    | .retAddr _ :: _, h => exact h.elim
    | .null :: _, h => exact h.elim
  | ifnonnull off =>
    replace hQ : (lnX pc nx 3 && tgX pc off x) = true := hQ
    obtain ⟨h1, h2⟩ := and_t hQ
    obtain ⟨t, l, rfl, ht⟩ := tgX_ok h2
    obtain rfl := lnX_ok h1
    rw [Nat.add_sub_cancel_left] at hd
    match st, h with
    | .ref _ :: r, h =>
      have h : GW (cnm own) cc nL rt ini hh (d + 1) n0 w0 Post t L r A := h
      exact h.same rfl rfl (fun o A' K => in_nonnull hd ht K)
    | .null :: r, h =>
      have h : GW (cnm own) cc nL rt ini hh (d + 1) n0 w0 Post (pc + 3) L r A := h
      exact h.same rfl rfl (fun o A' K => in_null hd K)
    | [], h => exact h.elim
    | .int _ :: _, h => exact h.elim
    | .long _ :: _, h => exact h.elim
    | .float _ :: _, h => exact h.elim
    | .double _ :: _, h => exact h.elim
    | .retAddr _ :: _, h => exact h.elim
  | tableswitch dflt lo hi offs =>
    match x, hQ, h with
    | t :: l, hQ, h =>
      replace hQ : (decide ((pc : Int) + dflt = (t : Int)) && decide (lo + (offs.toList.length : Int) = hi + 1) && swTab pc lo offs.toList l) = true := hQ
      obtain ⟨hQ, h3⟩ := and_t hQ
      obtain ⟨h1, h2⟩ := and_t hQ
      have h1 := of_decide_eq_true h1
      have h2 := of_decide_eq_true h2
      match st, h with
      | .int v :: r, h =>
        have h : swP v l t (fun t => GW (cnm own) cc nL rt ini hh (d + 1) n0 w0 Post t L r A) := h
        exact (swP_T l h).same rfl rfl (fun o A' K => in_tsw hd h1 h2 h3 K)
      | [], h => exact h.elim
      | .long _ :: _, h => exact h.elim
      | .float _ :: _, h => exact h.elim
      | .double _ :: _, h => exact h.elim
      | .ref _ :: _, h => exact h.elim
      | .retAddr _ :: _, h => exact h.elim
      | .null :: _, h => exact h.elim
    | [], hQ, h => cases hQ
  | lookupswitch dflt ps =>
    match x, hQ, h with
    | t :: l, hQ, h =>
      replace hQ : (decide ((pc : Int) + dflt = (t : Int)) && (ps.toList.zip (ps.toList.drop 1)).all (fun (a, next) => a.1 < next.1) && swLk pc ps.toList l) = true := hQ
      obtain ⟨hQ, h3⟩ := and_t hQ
      obtain ⟨h1, h2⟩ := and_t hQ
      have h1 := of_decide_eq_true h1
      match st, h with
      | .int v :: r, h =>
        have h : swP v l t (fun t => GW (cnm own) cc nL rt ini hh (d + 1) n0 w0 Post t L r A) := h
        exact (swP_T l h).same rfl rfl (fun o A' K => in_lsw hd h1 h2 h3 K)
      | [], h => exact h.elim
      | .long _ :: _, h => exact h.elim
      | .float _ :: _, h => exact h.elim
      | .double _ :: _, h => exact h.elim
      | .ref _ :: _, h => exact h.elim
      | .retAddr _ :: _, h => exact h.elim
      | .null :: _, h => exact h.elim
    | [], hQ, h => cases hQ
  | idiv =>
    obtain rfl := lnX_ok (show lnX pc nx 1 = true from hQ)
    rw [Nat.add_sub_cancel_left] at hd
    have h : (match (generalizing := false) st with
      | .int w :: .int v :: r => ¬ w = 0 ∧ GW (cnm own) cc nL rt ini hh (d + 1) n0 w0 Post (pc + 1) L (.int (v / w) :: r) A
      | _ => False) := h
    split at h
    · exact h.2.same rfl rfl (fun o A' K => in_idiv hd h.1 K)
    · exact h.elim
  | irem =>
    obtain rfl := lnX_ok (show lnX pc nx 1 = true from hQ)
    rw [Nat.add_sub_cancel_left] at hd
    have h : (match (generalizing := false) st with
      | .int w :: .int v :: r => ¬ w = 0 ∧ GW (cnm own) cc nL rt ini hh (d + 1) n0 w0 Post (pc + 1) L (.int (v - v / w * w) :: r) A
      | _ => False) := h
    split at h
    · exact h.2.same rfl rfl (fun o A' K => in_irem hd h.1 K)
    · exact h.elim
  | ddiv =>
    obtain rfl := lnX_ok (show lnX pc nx 1 = true from hQ)
    rw [Nat.add_sub_cancel_left] at hd
    have h : (match (generalizing := false) st with
      | .double w :: .double v :: r => vf_n64 (FP.ddiv v w) ∧ GW (cnm own) cc nL rt ini hh (d + 1) n0 w0 Post (pc + 1) L (.double (FP.ddiv v w) :: r) A
      | _ => False) := h
    split at h
    · exact h.2.same rfl rfl (fun o A' K => in_ddiv hd h.1 K)
    · exact h.elim
  | fdiv =>
    obtain rfl := lnX_ok (show lnX pc nx 1 = true from hQ)
    rw [Nat.add_sub_cancel_left] at hd
    have h : (match (generalizing := false) st with
      | .float w :: .float v :: r => vf_n32 (FP.fdiv v w) ∧ GW (cnm own) cc nL rt ini hh (d + 1) n0 w0 Post (pc + 1) L (.float (FP.fdiv v w) :: r) A
      | _ => False) := h
    split at h
    · exact h.2.same rfl rfl (fun o A' K => in_fdiv hd h.1 K)
    · exact h.elim
  | f2d =>
    obtain rfl := lnX_ok (show lnX pc nx 1 = true from hQ)
    rw [Nat.add_sub_cancel_left] at hd
    have h : (match (generalizing := false) st with
      | .float v :: r => vf_n64 (FP.f2d v) ∧ GW (cnm own) cc nL rt ini hh (d + 1) n0 w0 Post (pc + 1) L (.double (FP.f2d v) :: r) A
      | _ => False) := h
    split at h
    · exact h.2.same rfl rfl (fun o A' K => in_f2d hd h.1 K)
    · exact h.elim
  | arraylength =>
    obtain rfl := lnX_ok (show lnX pc nx 1 = true from hQ)
    rw [Nat.add_sub_cancel_left] at hd
    have h : (match (generalizing := false) st with
      | .ref a :: r => ∃ t n, hK A a = (t, n) ∧ 0 < t ∧ t ≤ 9 ∧ GW (cnm own) cc nL rt ini hh (d + 1) n0 w0 Post (pc + 1) L (.int (Int32.ofNat n) :: r) A
      | _ => False) := h
    split at h
    · obtain ⟨t, n, q1, q2, q3, h⟩ := h
      exact h.go (Nat.le_refl _) (Nat.le_refl _) (fun g0 _ o A' _ _ K => in_alen hd q1 g0 q2 q3 K)
    · exact h.elim
  | caload =>
    obtain rfl := lnX_ok (show lnX pc nx 1 = true from hQ)
    rw [Nat.add_sub_cancel_left] at hd
    have h : (match (generalizing := false) st with
      | .int j :: .ref a :: r => ∃ n, hK A a = (3, n) ∧ vp_in j n ∧ GW (cnm own) cc nL rt ini hh (d + 1) n0 w0 Post (pc + 1) L (.int (hI A a j.toNatClampNeg) :: r) A
      | _ => False) := h
    split at h
    · obtain ⟨n, q1, q2, h⟩ := h
      exact h.same rfl rfl (fun o A' K => in_caload hd q1 q2 K)
    · exact h.elim
  | laload => cases hQ
  | daload => cases hQ
  | iaload =>
    obtain rfl := lnX_ok (show lnX pc nx 1 = true from hQ)
    rw [Nat.add_sub_cancel_left] at hd
    match x, st, h with
    | [], .int j :: .ref a :: r, h =>
      obtain ⟨n, q1, q2, h⟩ := h
      exact GW.same h rfl rfl (fun o A' K => in_iaload hd q1 q2 K)
    | _ :: _, .int j :: .ref a :: r, h =>
      obtain ⟨n, q1, q2, h⟩ := h
      exact GW.go h (Nat.le_refl _) (Nat.le_refl _) (fun g0 _ o A' _ _ K => in_ialoadK hd g0 q1 q2 K)
    | [], [], h => exact h.elim
    | [], [.int _], h => exact h.elim
    | [], .long _ :: _, h => exact h.elim
    | [], .float _ :: _, h => exact h.elim
    | [], .double _ :: _, h => exact h.elim
    | [], .ref _ :: _, h => exact h.elim
    | [], .retAddr _ :: _, h => exact h.elim
    | [], .null :: _, h => exact h.elim
    | [], .int _ :: .int _ :: _, h => exact h.elim
    | [], .int _ :: .long _ :: _, h => exact h.elim
    | [], .int _ :: .float _ :: _, h => exact h.elim
    | [], .int _ :: .double _ :: _, h => exact h.elim
    | [], .int _ :: .retAddr _ :: _, h => exact h.elim
    | [], .int _ :: .null :: _, h => exact h.elim
    | _ :: _, [], h => exact h.elim
    | _ :: _, [.int _], h => exact h.elim
    | _ :: _, .long _ :: _, h => exact h.elim
    | _ :: _, .float _ :: _, h => exact h.elim
    | _ :: _, .double _ :: _, h => exact h.elim
    | _ :: _, .ref _ :: _, h => exact h.elim
    | _ :: _, .retAddr _ :: _, h => exact h.elim
    | _ :: _, .null :: _, h => exact h.elim
    | _ :: _, .int _ :: .int _ :: _, h => exact h.elim
    | _ :: _, .int _ :: .long _ :: _, h => exact h.elim
    | _ :: _, .int _ :: .float _ :: _, h => exact h.elim
    | _ :: _, .int _ :: .double _ :: _, h => exact h.elim
    | _ :: _, .int _ :: .retAddr _ :: _, h => exact h.elim
    | _ :: _, .int _ :: .null :: _, h => exact h.elim
  | baload =>
    obtain rfl := lnX_ok (show lnX pc nx 1 = true from hQ)
    rw [Nat.add_sub_cancel_left] at hd
    have h : (match (generalizing := false) st with
      | .int j :: .ref a :: r => ∃ n t, hK A a = (t, n) ∧ (t = 4 ∨ t = 8) ∧ vp_in j n ∧ GW (cnm own) cc nL rt ini hh (d + 1) n0 w0 Post (pc + 1) L (.int (hI A a j.toNatClampNeg) :: r) A
      | _ => False) := h
    split at h
    · obtain ⟨n, t, q1, q2, q3, h⟩ := h
      exact h.go (Nat.le_refl _) (Nat.le_refl _) (fun g0 _ o A' _ _ K => in_baload hd g0 q1 q2 q3 K)
    · exact h.elim
  | aaload =>
    obtain rfl := lnX_ok (show lnX pc nx 1 = true from hQ)
    rw [Nat.add_sub_cancel_left] at hd
    have h : (match (generalizing := false) st with
      | .int j :: .ref a :: r => ∃ n t b, hK A a = (t, n) ∧ (t = 6 ∨ t = 7) ∧ vp_in j n ∧ hR A a j.toNatClampNeg = some b ∧ GW (cnm own) cc nL rt ini hh (d + 1) n0 w0 Post (pc + 1) L (.ref b :: r) A
      | _ => False) := h
    split at h
    · obtain ⟨n, t, b, q1, q2, q3, q4, h⟩ := h
      exact h.same rfl rfl (fun o A' K => in_aaload hd q1 q2 q3 q4 K)
    · exact h.elim
  | iastore =>
    obtain rfl := lnX_ok (show lnX pc nx 1 = true from hQ)
    rw [Nat.add_sub_cancel_left] at hd
    have h : (match (generalizing := false) st with
      | .int w :: .int j :: .ref a :: r => ∃ n, hK A a = (1, n) ∧ vp_in j n ∧ GW (cnm own) cc nL rt ini hh (d + 1) n0 w0 Post (pc + 1) L r (sI A a j.toNatClampNeg w)
      | _ => False) := h
    split at h
    · obtain ⟨n, q1, q2, h⟩ := h
      exact h.same rfl rfl (fun o A' K => in_iastore hd q1 q2 K)
    · exact h.elim
  | castore =>
    obtain rfl := lnX_ok (show lnX pc nx 1 = true from hQ)
    rw [Nat.add_sub_cancel_left] at hd
    have h : (match (generalizing := false) st with
      | .int w :: .int j :: .ref a :: r => ∃ n, hK A a = (3, n) ∧ vp_in j n ∧ GW (cnm own) cc nL rt ini hh (d + 1) n0 w0 Post (pc + 1) L r (sI A a j.toNatClampNeg (vp_nar .char w))
      | _ => False) := h
    split at h
    · obtain ⟨n, q1, q2, h⟩ := h
      exact h.same rfl rfl (fun o A' K => in_castore hd q1 q2 K)
    · exact h.elim
  | bastore =>
    obtain rfl := lnX_ok (show lnX pc nx 1 = true from hQ)
    rw [Nat.add_sub_cancel_left] at hd
    have h : (match (generalizing := false) st with
      | .int w :: .int j :: .ref a :: r => ∃ n, hK A a = (4, n) ∧ vp_in j n ∧ GW (cnm own) cc nL rt ini hh (d + 1) n0 w0 Post (pc + 1) L r (sI A a j.toNatClampNeg (vp_nar .byte w))
      | _ => False) := h
    split at h
    · obtain ⟨n, q1, q2, h⟩ := h
      exact h.same rfl rfl (fun o A' K => in_bastore hd q1 q2 K)
    · exact h.elim
  | lastore => cases hQ
  | dastore => cases hQ
  | aastore =>
    obtain rfl := lnX_ok (show lnX pc nx 1 = true from hQ)
    rw [Nat.add_sub_cancel_left] at hd
    have h : (match (generalizing := false) st with
      | .ref w :: .int j :: .ref a :: r => ∃ n, hK A a = (7, n) ∧ hK A w = (12, 0) ∧ vp_in j n ∧ GW (cnm own) cc nL rt ini hh (d + 1) n0 w0 Post (pc + 1) L r (sR A a j.toNatClampNeg (some w))
      | _ => False) := h
    split at h
    · obtain ⟨n, q1, q2, q3, h⟩ := h
      exact h.same rfl rfl (fun o A' K => in_aastore hd q1 q2 q3 K)
    · exact h.elim
  | getfield ix =>
    replace hQ : (lnX pc nx 3 && (match (generalizing := false) x with
      | ci :: k :: t :: _ => (tF own).any (fun r => Nat.beq r.1 ix && Nat.beq r.2.1 ci && Nat.beq r.2.2.1 k) && (Nat.blt ci 11 || (Nat.beq ci 11 && Nat.blt k 2)) && Nat.beq ((ftag ci).getD k 0) t
      | _ => false)) = true := hQ
    have hQ3 := and_t hQ
    clear hQ
    obtain ⟨h1, hQ⟩ := hQ3
    obtain rfl := lnX_ok h1
    rw [Nat.add_sub_cancel_left] at hd
    match x, hQ, h with
    | ci :: k :: t :: l, hQ, h =>
      replace hQ : ((tF own).any (fun r => Nat.beq r.1 ix && Nat.beq r.2.1 ci && Nat.beq r.2.2.1 k) && (Nat.blt ci 11 || (Nat.beq ci 11 && Nat.blt k 2)) && Nat.beq ((ftag ci).getD k 0) t) = true := hQ
      obtain ⟨hQ, h4⟩ := and_t hQ
      obtain ⟨h2, h3⟩ := and_t hQ
      have h39 : ci < 12 ∧ (ci = 11 → k < 2) := by
        rcases Bool.or_eq_true_iff.mp h3 with h3 | h3
        · have h3 := blt_ok h3
          exact ⟨by omega, fun e => by omega⟩
        · obtain ⟨q1, q2⟩ := and_t h3
          have q1 := Nat.eq_of_beq_eq_true q1
          have q2 := blt_ok q2
          exact ⟨by omega, fun _ => q2⟩
      have h4 := Nat.eq_of_beq_eq_true h4
      have hf := fOK_of h20 h2
      match st, h with
      | .ref a :: r, h =>
        have h : hK A a = (10 + ci, 0) ∧ (match (generalizing := false) t with
          | 1 => GW (cnm own) cc nL rt ini hh (d + 1) n0 w0 Post (pc + 3) L (.long (hJ A a k) :: r) A
          | 2 => ∃ b, hR A a k = some b ∧ GW (cnm own) cc nL rt ini hh (d + 1) n0 w0 Post (pc + 3) L (.ref b :: r) A
          | _ => GW (cnm own) cc nL rt ini hh (d + 1) n0 w0 Post (pc + 3) L (.int (hI A a k) :: r) A) := h
        obtain ⟨hk, h⟩ := h
        match t, h4, h with
        | 1, h4, h => exact GW.go h (Nat.le_refl _) (Nat.le_refl _) (fun g0 _ o A' _ _ K => in_get hd hf h39.1 g0 hk (fun B CS => by rw [h4]; rfl) h39.2 (fun e => by cases e) (fun q e => by cases e) K)
        | 2, h4, h =>
          obtain ⟨b, hb, h⟩ := h
          exact GW.go h (Nat.le_refl _) (Nat.le_refl _) (fun g0 _ o A' _ _ K => in_get hd hf h39.1 g0 hk (fun B CS => by rw [h4]; show va_rf ((hR A a k).map (adr B CS)) = _; rw [hb]; rfl) h39.2 (fun e => by cases e) (fun q e => by cases e) K)
        | 0, h4, h => exact GW.go h (Nat.le_refl _) (Nat.le_refl _) (fun g0 _ o A' _ _ K => in_get hd hf h39.1 g0 hk (fun B CS => by rw [h4]; rfl) h39.2 (fun e => by cases e) (fun q e => by cases e) K)
        | t + 3, h4, h => exact GW.go h (Nat.le_refl _) (Nat.le_refl _) (fun g0 _ o A' _ _ K => in_get hd hf h39.1 g0 hk (fun B CS => by rw [h4]; rfl) h39.2 (fun e => by cases e) (fun q e => by cases e) K)
      | [], h => exact h.elim
      | .int _ :: _, h => exact h.elim
      | .long _ :: _, h => exact h.elim
      | .float _ :: _, h => exact h.elim
      | .double _ :: _, h => exact h.elim
      | .retAddr _ :: _, h => exact h.elim
      | .null :: _, h => exact h.elim
    | [], hQ, h => cases hQ
    | [_], hQ, h => cases hQ
    | [_, _], hQ, h => cases hQ
  | putfield ix =>
    replace hQ : (lnX pc nx 3 && (match (generalizing := false) x with
      | ci :: k :: t :: z => (tF own).any (fun r => Nat.beq r.1 ix && Nat.beq r.2.1 ci && Nat.beq r.2.2.1 k) && ciB ci z && Nat.beq ((ftag ci).getD k 0) t && fiB own ini ci k && ftB ci k t
      | _ => false)) = true := hQ
    have hQ3 := and_t hQ
    clear hQ
    obtain ⟨h1, hQ⟩ := hQ3
    obtain rfl := lnX_ok h1
    rw [Nat.add_sub_cancel_left] at hd
    match x, hQ, h with
    | ci :: k :: t :: l, hQ, h =>
      replace hQ : ((tF own).any (fun r => Nat.beq r.1 ix && Nat.beq r.2.1 ci && Nat.beq r.2.2.1 k) && ciB ci l && Nat.beq ((ftag ci).getD k 0) t && fiB own ini ci k && ftB ci k t) = true := hQ
      obtain ⟨hQ, h6⟩ := and_t hQ
      obtain ⟨hQ, h5⟩ := and_t hQ
      obtain ⟨hQ, h4⟩ := and_t hQ
      obtain ⟨h2, h3⟩ := and_t hQ
      have h4 := Nat.eq_of_beq_eq_true h4
      have hf := fOK_of h20 h2
      have hp : pOK (cnm own) ini ix ci k t := pOK_of hf h5 h4 h6
      match st, h with
      | v :: .ref a :: r, h =>
        obtain ⟨hk, hz9, h⟩ := h
        have h3 : ci < 11 ∨ (ci = 11 ∧ a < BIG) := ciB_ok h3 hz9
        have hput : ∀ w, (t ≠ 1 ∧ t ≠ 2) → v = .int w → (fitT t w ∧ GW (cnm own) cc nL rt ini hh (d + 1) n0 w0 Post (pc + 3) L r (sI A a k w)) → GW (cnm own) cc nL rt ini hh (d + 1) n0 w0 Post pc L (v :: .ref a :: r) A := by
          clear h
          intro w ht hv h9
          subst hv
          exact GW.same h9.2 rfl rfl (fun o A' K => in_put (A1 := sI A a k w) hd hp h3 hk rfl rfl rfl (fun b hb => ⟨by funext j; simp [hI, sI, up2, hb], rfl, rfl, rfl⟩) (fun B CS => by unfold fvl; split; exact absurd rfl ht.1; exact absurd rfl ht.2; simp [hI, sI, up2, lvA]) (fun B CS j t hj => by unfold fvl; split; rfl; rfl; simp [hI, sI, up2, hj]) (fun q e => by cases e) (fun B CS => fit_ok h9.1 (ftB_int h6 ht)) K)
        match t, v, h with
        | 1, .long w, h =>
          exact GW.same h rfl rfl (fun o A' K => in_put (A1 := sJ A a k w) hd hp h3 hk rfl rfl rfl (fun b hb => ⟨rfl, by funext j; simp [hJ, sJ, up2, hb], rfl, rfl⟩) (fun B CS => by simp [fvl, hJ, sJ, up2, lvA]) (fun B CS j t hj => by unfold fvl; split; (simp [hJ, sJ, up2, hj]); rfl; rfl) (fun q e => by cases e) (fun B CS => by rw [ftB_1 rfl h6]; exact ⟨rfl, rfl⟩) K)
        | 2, .ref w, h =>
          exact GW.same h rfl rfl (fun o A' K => in_put (A1 := sR A a k (some w)) hd hp h3 hk rfl rfl rfl (fun b hb => ⟨rfl, rfl, by funext j; simp [hR, sR, up2, hb], rfl⟩) (fun B CS => by simp [fvl, hR, sR, up2, lvA, va_rf]) (fun B CS j t hj => by unfold fvl; split; rfl; (simp [hR, sR, up2, hj]); rfl) (fun q e => by cases e) (fun B CS => by rcases ftB_2 rfl h6 with ⟨n, e⟩ | ⟨u, e⟩ <;> rw [e] <;> exact ⟨rfl, rfl⟩) K)
        | 0, .int w, h => exact hput w ⟨by omega, by omega⟩ rfl h
        | t + 3, .int w, h => exact hput w ⟨by omega, by omega⟩ rfl h
        | 0, .long _, h => exact h.elim
        | 0, .ref _, h => exact h.elim
        | 0, .float _, h => exact h.elim
        | 0, .double _, h => exact h.elim
        | 0, .null, h => exact h.elim
        | 0, .retAddr _, h => exact h.elim
        | t + 3, .long _, h => exact h.elim
        | t + 3, .ref _, h => exact h.elim
        | t + 3, .float _, h => exact h.elim
        | t + 3, .double _, h => exact h.elim
        | t + 3, .null, h => exact h.elim
        | t + 3, .retAddr _, h => exact h.elim
        | 1, .int _, h => exact h.elim
        | 1, .ref _, h => exact h.elim
        | 1, .float _, h => exact h.elim
        | 1, .double _, h => exact h.elim
        | 1, .null, h => exact h.elim
        | 1, .retAddr _, h => exact h.elim
        | 2, .int _, h => exact h.elim
        | 2, .long _, h => exact h.elim
        | 2, .float _, h => exact h.elim
        | 2, .double _, h => exact h.elim
        | 2, .null, h => exact h.elim
        | 2, .retAddr _, h => exact h.elim
      | [], h => exact h.elim
      | [_], h => exact h.elim
      | _ :: .int _ :: _, h => exact h.elim
      | _ :: .long _ :: _, h => exact h.elim
      | _ :: .float _ :: _, h => exact h.elim
      | _ :: .double _ :: _, h => exact h.elim
      | _ :: .retAddr _ :: _, h => exact h.elim
      | _ :: .null :: _, h => exact h.elim
    | [], hQ, h => cases hQ
    | [_], hQ, h => cases hQ
    | [_, _], hQ, h => cases hQ
  | new ix =>
    match x, hQ, h with
    | [ci, w], hQ, h =>
      replace hQ : (lnX pc nx 3 && Nat.blt ci 12 && (tW own).any (fun r => Nat.beq r.1 ix && Nat.beq r.2.1 ci && Nat.beq r.2.2.1 w)) = true := hQ
      obtain ⟨hQ, h3⟩ := and_t hQ
      obtain ⟨h1, h2⟩ := and_t hQ
      have h2 := blt_ok h2
      obtain rfl := lnX_ok h1
      rw [Nat.add_sub_cancel_left] at hd
      have h : GW (cnm own) cc nL rt ini hh (d + 1) n0 w0 Post (pc + 3) L (.ref (hn A) :: st) (mk A (10 + ci, 0) w) := h
      exact h.go (Nat.le_succ _) (Nat.le_add_right _ _) (fun g0 g1 o A' l1 l2 K => in_new hd (nOK_of h20 h3) h2 g0 g1 l1 l2 K)
    | [E], hQ, h =>
      replace hQ : (lnX pc nx 3 && h0 && thB own cc pc ix E) = true := hQ
      obtain ⟨hQ, h3⟩ := and_t hQ
      obtain ⟨h1, h2⟩ := and_t hQ
      obtain rfl := lnX_ok h1
      rw [Nat.add_sub_cancel_left] at hd
      match st, h with
      | [], h =>
        have h : Post (.inr E) (junk A 6) := h
        exact th_ok hd h3 (hh0 h2) h
      | _ :: _, h => exact h.elim
    | [], hQ, h => cases hQ
    | _ :: _ :: _ :: _, hQ, h => cases hQ
  | newarray ty =>
    replace hQ : (lnX pc nx 2 && nwB ty x) = true := hQ
    obtain ⟨h1, h2⟩ := and_t hQ
    obtain rfl := lnX_ok h1
    rw [Nat.add_sub_cancel_left] at hd
    cases ty with
    | int =>
      obtain ⟨l, rfl⟩ := isX_ok (show isX x 1 = true from h2)
      match st, h with
      | .int m :: r, h =>
        have h : ¬ m < 0 ∧ m.toNatClampNeg ≤ 65536 ∧ GW (cnm own) cc nL rt ini hh (d + 1) n0 w0 Post (pc + 2) L (.ref (hn A) :: r) (mk A (1, m.toNatClampNeg) m.toNatClampNeg) := h
        exact h.2.2.go (Nat.le_succ _) (Nat.le_add_right _ _) (fun g0 g1 o A' l1 l2 K => in_newa1 hd h.1 h.2.1 g0 g1 l1 l2 K)
      | [], h => exact h.elim
      | .long _ :: _, h => exact h.elim
      | .float _ :: _, h => exact h.elim
      | .double _ :: _, h => exact h.elim
      | .ref _ :: _, h => exact h.elim
      | .retAddr _ :: _, h => exact h.elim
      | .null :: _, h => exact h.elim
    | long => cases h2
    | char =>
      obtain ⟨l, rfl⟩ := isX_ok (show isX x 3 = true from h2)
      match st, h with
      | .int m :: r, h =>
        have h : ¬ m < 0 ∧ m.toNatClampNeg ≤ 65536 ∧ GW (cnm own) cc nL rt ini hh (d + 1) n0 w0 Post (pc + 2) L (.ref (hn A) :: r) (mk A (3, m.toNatClampNeg) m.toNatClampNeg) := h
        exact h.2.2.go (Nat.le_succ _) (Nat.le_add_right _ _) (fun g0 g1 o A' l1 l2 K => in_newa3 hd h.1 h.2.1 g0 g1 l1 l2 K)
      | [], h => exact h.elim
      | .long _ :: _, h => exact h.elim
      | .float _ :: _, h => exact h.elim
      | .double _ :: _, h => exact h.elim
      | .ref _ :: _, h => exact h.elim
      | .retAddr _ :: _, h => exact h.elim
      | .null :: _, h => exact h.elim
    | byte =>
      obtain ⟨l, rfl⟩ := isX_ok (show isX x 4 = true from h2)
      match st, h with
      | .int m :: r, h =>
        have h : ¬ m < 0 ∧ m.toNatClampNeg ≤ 65536 ∧ GW (cnm own) cc nL rt ini hh (d + 1) n0 w0 Post (pc + 2) L (.ref (hn A) :: r) (mk A (4, m.toNatClampNeg) m.toNatClampNeg) := h
        exact h.2.2.go (Nat.le_succ _) (Nat.le_add_right _ _) (fun g0 g1 o A' l1 l2 K => in_newa4 hd h.1 h.2.1 g0 g1 l1 l2 K)
      | [], h => exact h.elim
      | .long _ :: _, h => exact h.elim
      | .float _ :: _, h => exact h.elim
      | .double _ :: _, h => exact h.elim
      | .ref _ :: _, h => exact h.elim
      | .retAddr _ :: _, h => exact h.elim
      | .null :: _, h => exact h.elim
    | double => cases h2
    | _ => cases h2
  | anewarray ix =>
    replace hQ : (lnX pc nx 3 && (tA own).any (fun r => Nat.beq r.1 ix)) = true := hQ
    obtain ⟨h1, h2⟩ := and_t hQ
    obtain rfl := lnX_ok h1
    rw [Nat.add_sub_cancel_left] at hd
    have hl : Jvm.Cond.classLink (cnm own) ix "LintelBrothers$Data" ∈ lw_tb := by
      obtain ⟨r, hr, h2⟩ := List.any_eq_true.mp h2
      have h9 := tA_ok own h20 r hr
      rw [Nat.eq_of_beq_eq_true h2] at h9
      exact tbg_mem h9
    have h : (match (generalizing := false) st with
      | .int m :: r => ¬ m < 0 ∧ m.toNatClampNeg ≤ 65536 ∧ GW (cnm own) cc nL rt ini hh (d + 1) n0 w0 Post (pc + 3) L (.ref (hn A) :: r) (mk A (7, m.toNatClampNeg) m.toNatClampNeg)
      | _ => False) := h
    split at h
    · exact h.2.2.go (Nat.le_succ _) (Nat.le_add_right _ _) (fun g0 g1 o A' l1 l2 K => in_anewa hd hl ⟨tbg_mem ao_w.1, ao_p.1⟩ h.1 h.2.1 g0 g1 l1 l2 K)
    · exact h.elim
  | multianewarray ix dm =>
    replace hQ : (lnX pc nx 4 && Nat.beq dm 2 && (tMA own).any (fun r => Nat.beq r.1 ix)) = true := hQ
    obtain ⟨hQ, h2⟩ := and_t hQ
    obtain ⟨h1, h3⟩ := and_t hQ
    obtain rfl := lnX_ok h1
    obtain rfl := Nat.eq_of_beq_eq_true h3
    rw [Nat.add_sub_cancel_left] at hd
    have hl : Jvm.Cond.classLink (cnm own) ix "[[I" ∈ lw_tb := by
      obtain ⟨r, hr, h2⟩ := List.any_eq_true.mp h2
      have h9 := tMA_ok own h20 r hr
      rw [Nat.eq_of_beq_eq_true h2] at h9
      exact tbg_mem h9
    have h : (match (generalizing := false) st with
      | .int m :: .int n :: r => ¬ m < 0 ∧ ¬ n < 0 ∧ 0 < n.toNatClampNeg ∧ m.toNatClampNeg ≤ 1000 ∧ n.toNatClampNeg ≤ 1000 ∧ GW (cnm own) cc nL rt ini hh (d + 1) n0 w0 Post (pc + 4) L (.ref (hn A) :: r) (mkG A 6 1 n.toNatClampNeg m.toNatClampNeg)
      | _ => False) := h
    split at h
    · obtain ⟨q1, q2, q3, q4, q5, h⟩ := h
      exact h.go (by show hn A ≤ hn A + 1 + _; omega) (by show hw A ≤ hw A + _ + _; omega) (fun g0 g1 o A' l1 l2 K => in_mna hd hl ⟨tbg_mem ao_w.2, ao_p.2⟩ q2 q1 q5 q4 g0 g1 l1 l2 K)
    · exact h.elim
  | ireturn =>
    replace hQ : (lnX pc nx 1 && rtB rt rtn) = true := hQ
    obtain ⟨h1, h2⟩ := and_t hQ
    obtain rfl := lnX_ok h1
    rw [Nat.add_sub_cancel_left] at hd
    have h : (match (generalizing := false) st with
      | [.int v] => fitT rtn v ∧ Post (.inl (some (.int v))) A
      | _ => False) := h
    split at h
    · obtain ⟨ty, e, q⟩ := rtB_ok h2
      exact GW.end _ h.2 (fun q e => by cases e) (Nat.le_refl _) (Nat.le_refl _) (fun g0 g1 => in_iret hd e (fit_ok h.1 q).1 g0 g1)
    · exact h.elim
  | lreturn =>
    replace hQ : (lnX pc nx 1 && decide (rt = some .long)) = true := hQ
    obtain ⟨h1, h2⟩ := and_t hQ
    obtain rfl := lnX_ok h1
    have h2 := of_decide_eq_true h2
    rw [Nat.add_sub_cancel_left] at hd
    have h : (match (generalizing := false) st with
      | [.long v] => Post (.inl (some (.long v))) A
      | _ => False) := h
    split at h
    · exact GW.end _ h (fun q e => by cases e) (Nat.le_refl _) (Nat.le_refl _) (fun g0 g1 => in_lret hd h2 g0 g1)
    · exact h.elim
  | dreturn =>
    replace hQ : (lnX pc nx 1 && decide (rt = some .double)) = true := hQ
    obtain ⟨h1, h2⟩ := and_t hQ
    obtain rfl := lnX_ok h1
    have h2 := of_decide_eq_true h2
    rw [Nat.add_sub_cancel_left] at hd
    have h : (match (generalizing := false) st with
      | [.double v] => Post (.inl (some (.double v))) A
      | _ => False) := h
    split at h
    · exact GW.end _ h (fun q e => by cases e) (Nat.le_refl _) (Nat.le_refl _) (fun g0 g1 => in_dret hd h2 g0 g1)
    · exact h.elim
  | freturn =>
    replace hQ : (lnX pc nx 1 && decide (rt = some .float)) = true := hQ
    obtain ⟨h1, h2⟩ := and_t hQ
    obtain rfl := lnX_ok h1
    have h2 := of_decide_eq_true h2
    rw [Nat.add_sub_cancel_left] at hd
    have h : (match (generalizing := false) st with
      | [.float v] => Post (.inl (some (.float v))) A
      | _ => False) := h
    split at h
    · exact GW.end _ h (fun q e => by cases e) (Nat.le_refl _) (Nat.le_refl _) (fun g0 g1 => in_fret hd h2 g0 g1)
    · exact h.elim
  | areturn =>
    replace hQ : (lnX pc nx 1 && (match (generalizing := false) rt with
      | some (.object _) => true
      | some (.array _) => true
      | _ => false)) = true := hQ
    obtain ⟨h1, h2⟩ := and_t hQ
    obtain rfl := lnX_ok h1
    rw [Nat.add_sub_cancel_left] at hd
    have h : (match (generalizing := false) st with
      | [.ref v] => Post (.inl (some (.ref v))) A
      | _ => False) := h
    split at h
    · split at h2
      · exact GW.end _ h (fun q e => by cases e) (Nat.le_refl _) (Nat.le_refl _) (fun g0 g1 => in_aret hd rfl (Or.inl ⟨_, rfl⟩) g0 g1)
      · exact GW.end _ h (fun q e => by cases e) (Nat.le_refl _) (Nat.le_refl _) (fun g0 g1 => in_aret hd rfl (Or.inr ⟨_, rfl⟩) g0 g1)
      · cases h2
    · exact h.elim
  | return_ =>
    replace hQ : (lnX pc nx 1 && decide (rt = none)) = true := hQ
    obtain ⟨h1, h2⟩ := and_t hQ
    obtain rfl := lnX_ok h1
    have h2 := of_decide_eq_true h2
    rw [Nat.add_sub_cancel_left] at hd
    have h : (match (generalizing := false) st with
      | [] => Post (.inl none) A
      | _ => False) := h
    split at h
    · exact GW.end _ h trivial (Nat.le_refl _) (Nat.le_refl _) (fun g0 g1 => in_vret hd h2 g0 g1)
    · exact h.elim
  | invokevirtual ix =>
    replace hQ : (lnX pc nx 3 && (match (generalizing := false) x with
      | [6, k, np, ci] => (tV own).any (fun r => Nat.beq r.1 ix && Nat.beq r.2.1 k && Nat.beq r.2.2.1 np && Nat.beq r.2.2.2.1 ci) || vuB own ix k np ci
      | _ => false)) = true := hQ
    have hQ3 := and_t hQ
    clear hQ
    obtain ⟨h1, hQ⟩ := hQ3
    obtain rfl := lnX_ok h1
    rw [Nat.add_sub_cancel_left] at hd
    split at hQ
    · rename_i k np ci
      rcases Bool.or_eq_true_iff.mp hQ with hQ | hQ
      · exact iv_V h20 hd hS hhk hQ h
      · exact iv_VU hd hS hhk hQ h
    · cases hQ
  | invokestatic ix =>
    replace hQ : (lnX pc nx 3 && (match (generalizing := false) x with
      | [0, k, np] => (tS own).any (fun r => Nat.beq r.1 ix && Nat.beq r.2.1 k && Nat.beq r.2.2.1 np)
      | [2] => (tC own).any (fun r => Nat.beq r.1 ix)
      | [3] => (tM3 own).any (fun r => Nat.beq r.1 ix)
      | [4] => (tM4 own).any (fun r => Nat.beq r.1 ix)
      | [5] => (tM5 own).any (fun r => Nat.beq r.1 ix)
      | _ => false)) = true := hQ
    have hQ3 := and_t hQ
    clear hQ
    obtain ⟨h1, hQ⟩ := hQ3
    obtain rfl := lnX_ok h1
    rw [Nat.add_sub_cancel_left] at hd
    split at hQ
    · exact iv_S h20 hd hS hhk hQ h
    · exact iv_copy h20 hd hQ h
    · exact iv_max h20 hd hQ h
    · exact iv_min h20 hd hQ h
    · exact iv_abs h20 hd hQ h
    · cases hQ
  | invokespecial ix =>
    replace hQ : (lnX pc nx 3 && (match (generalizing := false) x with
      | [7, k, np] => (tI own).any (fun r => Nat.beq r.1 ix && Nat.beq r.2.1 k && Nat.beq r.2.2.1 np) || (tN own).any (fun r => Nat.beq r.1 ix && Nat.beq r.2.1 k && Nat.beq r.2.2.1 np)
      | [6, k, np, ci] => (tU own).any (fun r => Nat.beq r.1 ix && Nat.beq r.2.1 k && Nat.beq r.2.2.1 np && Nat.beq r.2.2.2.1 ci)
      | [1] => (tO own).any (fun r => Nat.beq r.1 ix)
      | _ => false)) = true := hQ
    have hQ3 := and_t hQ
    clear hQ
    obtain ⟨h1, hQ⟩ := hQ3
    obtain rfl := lnX_ok h1
    rw [Nat.add_sub_cancel_left] at hd
    split at hQ
    · exact iv_I h20 hd hS hhk hQ h
    · exact iv_SU h20 hd hS hhk hQ h
    · exact iv_objI h20 hd hQ h
    · cases hQ
  | checkcast ix => exact h.elim
  | getstatic ix =>
    match x, hQ, h with
    | [], hQ, h => exact cl_def h20 hd hQ h
    | [_], hQ, h => exact cl_def h20 hd hQ h
    | [_, _], hQ, h => exact cl_def h20 hd hQ h
    | _ :: _ :: _ :: _ :: _, hQ, h => exact cl_def h20 hd hQ h
    | [_, k, iv], hQ, h =>
      replace hQ : (lnX pc nx 3 && (tGS own).any (fun r => Nat.beq r.1 ix && Nat.beq r.2.1 3) && dcB cc (pc + 3) (.invokestatic iv) 3 && (tS own).any (fun r => Nat.beq r.1 iv && Nat.beq r.2.1 k && Nat.beq r.2.2.1 3)) = true := hQ
      obtain ⟨hQ, q4⟩ := and_t hQ
      obtain ⟨hQ, q3⟩ := and_t hQ
      obtain ⟨q1, q2⟩ := and_t hQ
      obtain rfl := lnX_ok q1
      rw [Nat.add_sub_cancel_left] at hd
      obtain ⟨r1, hr1, hq1⟩ := List.any_eq_true.mp q2
      simp only [Bool.and_eq_true, Nat.beq_eq] at hq1
      have h9 := tGS_ok own h20 r1 hr1
      rw [hq1.1, hq1.2] at h9
      obtain ⟨r2, hr2, hq2⟩ := List.any_eq_true.mp q4
      simp only [Bool.and_eq_true, Nat.beq_eq] at hq2
      obtain ⟨⟨e1, e2⟩, e3⟩ := hq2
      obtain ⟨t1, t2, t3, t4, t5⟩ := tS_ok own h20 r2 hr2
      rw [e2] at t1 t2 t3 t4 t5
      rw [e1] at t3
      rw [e3] at t5
      have h : (match (generalizing := false) st with
        | .int n :: .int j :: r => Nat.ble (catS r) 8 = true ∧ S k [.int j, .int n, .null] A (fun o A' => o = .inl (some (.int j)) ∧ A' = A) ∧ S k [.int j, .int n, .ref (BIG + 21)] A (fun o A' => o = .inl (some (.int j)) ∧ A' = A) ∧ GW (cnm own) cc nL rt ini hh (d + 1) n0 w0 Post (pc + 3 + 3) L (.int j :: r) A
        | _ => False) := h
      split at h
      · obtain ⟨hc, s0, s1, hg⟩ := h
        have hc := Nat.le_of_ble_eq_true hc
        obtain ⟨o0, A0, ⟨rfl, rfl⟩, k0, -, -, M0⟩ := hS k t1 t2 _ _ _ s0
        obtain ⟨o1, A1, ⟨rfl, rfl⟩, k1, -, -, M1⟩ := hS k t1 t2 _ _ _ s1
        exact hg.go (Nat.le_refl _) (Nat.le_refl _) (fun g0 g1 o A' l1 l2 K => in_gstJ hd (tbg_mem h9)
          (in_callS (dcB_ok q3) (mOK_all t1 t2) (tbg_mem t3) (tbg_mem t4) (x := [Value.null, _, _]) t5 rfl rfl hc rfl k0 hhk g0 g1 (Nat.le_refl _) (Nat.le_refl _) l1 l2 M0 K)
          (in_callS (dcB_ok q3) (mOK_all t1 t2) (tbg_mem t3) (tbg_mem t4) (x := [Value.ref (BIG + 21), _, _]) t5 rfl rfl hc rfl k1 hhk g0 g1 (Nat.le_refl _) (Nat.le_refl _) l1 l2 M1 K))
      · exact h.elim
  | _ => exact cl_def h20 hd hQ h
end GD
/-! soundness: what the small machine says of a method, the machine does -/
theorem lk_mem : ∀ (rs : List Row) (pc : Nat) (r : Instr × Nat × Int32 × List Nat), lk pc rs = some r → (pc, r) ∈ rs
  | [], _, _, h => by cases h
  | a :: l, pc, r, h => by
    have h : cond (Nat.beq pc a.1) (some a.2) (lk pc l) = some r := h
    cases hb : Nat.beq pc a.1 with
    | true =>
      rw [hb] at h
      have e : a.2 = r := Option.some.inj h
      have e2 : pc = a.1 := Nat.eq_of_beq_eq_true hb
      rw [← e, e2]
      exact List.mem_cons_self
    | false =>
      rw [hb] at h
      exact List.mem_cons_of_mem _ (lk_mem l pc r h)
/-- what is computed once for each method -/
def mdOK (k : Nat) : Prop := mB k (md k).1 = true ∧ hhOK (cnm (mo k)) (mi k).2.2.2.2.1 (md k).2.2.2 ∧ (mi k).2.2.1 = (md k).2.1 ∧ mo k < 20 ∧ (mi k).1.cls = cnm (mo k) ∧ ((mi k).2.2.2.2.2 = true → (mi k).1.name = "<init>")
theorem gw_ok {k d n0 w0 : Nat} {Post : Out → HP → Prop} {S : SpecT} (hk : mdOK k) (hS : okS2 d S) : ∀ pc L st A, stepP S (md k) Post pc L st A (GW (cnm (mo k)) (mi k).2.1 (mi k).2.2.1 (mi k).2.2.2.1 (mi k).2.2.2.2.2 (mi k).2.2.2.2.1 (d + 1) n0 w0 Post) → GW (cnm (mo k)) (mi k).2.1 (mi k).2.2.1 (mi k).2.2.2.1 (mi k).2.2.2.2.2 (mi k).2.2.2.2.1 (d + 1) n0 w0 Post pc L st A := by
  intro pc L st A h
  obtain ⟨h1, h2, h3, h4, h5⟩ := hk
  unfold stepP at h
  split at h
  · rename_i i nx cst x e
    have hr := List.all_eq_true.mp h1 _ (lk_mem _ _ _ e)
    obtain ⟨hd, hQ⟩ := and_t hr
    refine step_ok h4 hS h2 (fun hz => ?_) (dcB_ok hd) hQ h
    revert hz
    split
    · intro _; assumption
    · intro hz; cases hz
  · exact h.elim
theorem argL_len : ∀ (as : List Value) (B : Nat) (CS : KT), noJ as = true → (lg_sl (as.map (lvA B CS))).length = (argL as).length
  | [], _, _, _ => rfl
  | v :: l, B, CS, h => by
    have hl : noJ l = true := by cases v <;> first | exact h | cases h
    have ih := argL_len l B CS hl
    have e : lg_sl ((v :: l).map (lvA B CS)) = (if (lvA B CS v).category = 2 then [.val (lvA B CS v), .second] else [.val (lvA B CS v)]) ++ lg_sl (l.map (lvA B CS)) := by
      simp [lg_sl]
    rw [e, List.length_append, ih]
    cases v <;> simp [argL, lvA, Value.category] <;> omega
theorem argL_in : ∀ (as : List Value) (B : Nat) (CS : KT) (j : Nat), noJ as = true → ∀ i v, nth (argL as) i = some (some v) → ∃ mv, (j + i, mv) ∈ lv_args j (as.map (lvA B CS)) ∧ vR B CS v mv
  | [], _, _, _, _, i, v, h => by cases h
  | a :: l, B, CS, j, hnj, i, v, h => by
    have hl : noJ l = true := by cases a <;> first | exact hnj | cases hnj
    have hva : vR B CS a (lvA B CS a) := by cases a <;> first | rfl | cases hnj
    have e9 : lv_args j ((a :: l).map (lvA B CS)) = (j, lvA B CS a) :: lv_args (if (lvA B CS a).category = 2 then j + 2 else j + 1) (l.map (lvA B CS)) := rfl
    rw [e9]
    by_cases h2 : a.category = 2
    · have eA : argL (a :: l) = some a :: none :: argL l := by
        cases a <;> first | rfl | (revert h2; simp [Value.category]; done)
      rw [eA] at h
      have e8 : (lvA B CS a).category = 2 := by rw [hva.cat]; exact h2
      rw [if_pos e8]
      match i, h with
      | 0, h => cases (Option.some.inj (Option.some.inj h)); exact ⟨_, List.mem_cons_self, hva⟩
      | 1, h => cases (Option.some.inj h)
      | i + 2, h =>
        obtain ⟨mv, m1, m2⟩ := argL_in l B CS (j + 2) hl i v h
        exact ⟨mv, List.mem_cons_of_mem _ (by rw [show j + (i + 2) = j + 2 + i by omega]; exact m1), m2⟩
    · have eA : argL (a :: l) = some a :: argL l := by
        cases a <;> first | rfl | exact absurd rfl h2
      rw [eA] at h
      have e8 : ¬ (lvA B CS a).category = 2 := by rw [hva.cat]; exact h2
      rw [if_neg e8]
      match i, h with
      | 0, h => cases (Option.some.inj (Option.some.inj h)); exact ⟨_, List.mem_cons_self, hva⟩
      | i + 1, h =>
        obtain ⟨mv, m1, m2⟩ := argL_in l B CS (j + 1) hl i v h
        exact ⟨mv, List.mem_cons_of_mem _ (by rw [show j + (i + 1) = j + 1 + i by omega]; exact m1), m2⟩
theorem nth_app {α : Type} : ∀ (l r : List α) (i : Nat) (v : α), nth (l ++ r) i = some v → nth l i = some v ∨ v ∈ r
  | [], r, i, v, h => Or.inr (by
    induction r generalizing i with
    | nil => cases h
    | cons a r ih =>
      cases i with
      | zero => cases (Option.some.inj h); exact List.mem_cons_self
      | succ i => exact List.mem_cons_of_mem _ (ih i h))
  | a :: l, r, 0, v, h => Or.inl h
  | a :: l, r, i + 1, v, h => nth_app l r i v h
theorem entL_lR {B : Nat} {CS : KT} {n : Nat} {as : List Value} {ls : Array Slot} (hnj : noJ as = true) (h : lv_has ls n (lv_args 0 (as.map (lvA B CS)))) : lR B CS (entL n as) n ls := by
  refine ⟨_, h, fun i v hv => ?_⟩
  rcases nth_app _ _ _ _ hv with h9 | h9
  · obtain ⟨mv, m1, m2⟩ := argL_in as B CS 0 hnj i v h9
    rw [Nat.zero_add] at m1
    exact ⟨mv, m1, m2⟩
  · cases (List.mem_replicate.mp h9).2
theorem met_ok {k d : Nat} (hk : mdOK k) (hpl : plainName (mi k).1.cls = true) {as : List Value} {A A' : HP} {o : Out} (hnj : noJ as = true) (hl : (argL as).length ≤ (md k).2.1) (h : Inn (cnm (mo k)) (mi k).2.1 (mi k).2.2.1 (mi k).2.2.2.1 (mi k).2.2.2.2.2 (mi k).2.2.2.2.1 d (hn A) (hw A) o A' 0 (entL (md k).2.1 as) [] A) : MetOK (mi k) d as A o A' := by
  intro l B Hb CS dC dI dA hB
  obtain ⟨-, -, h3, -, h5, h6⟩ := hk
  have body : ∀ p e s m args below meth c s₁, BodyLoose p l (mi k).1 (headSpec [mword (mi k)] (rmD d (hn A' - hn A) (hw A' - hw A))) (mi k).2.1 (mi k).2.2.1 (mi k).2.2.2.1 e s m args below meth c s₁ → c.maxLocals = (mi k).2.2.1 → c.exceptionTable.toList.map (fun x => (x.startPc, x.endPc, x.handlerPc, x.catchType)) = (mi k).2.2.2.2.1 → PcO l B Hb CS dC dI dA as A args s →
      W p l e (headSpec [mword (mi k)] (rmD d (hn A' - hn A) (hw A' - hw A))).room s m args below meth c s.heap [] 0 0 (vx_MQ below (QO B Hb CS dC dI dA o A') (XO B Hb CS dC dI dA o A') args s (hn A' - hn A) (hw A' - hw A) (fun q => B ≤ q)) (entryFrame m args (mi k).2.2.1) := by
    intro p e s m args below meth c s₁ Bo hml hT hP
    obtain ⟨rfl, hR, hC⟩ := hP
    rw [← h3] at h hl
    rw [lg_entry_eq]
    have hls := lv_entry (as.map (lvA B CS)) (n := (mi k).2.2.1) (by rw [argL_len as B CS hnj]; exact hl)
    have h9 := h p l e (rmD d (hn A' - hn A) (hw A' - hw A)) s m (as.map (lvA B CS)).toArray below meth c B Hb CS dC dI dA
      ⟨Bo.exec, Bo.bytes, hml, Bo.notSynchronized, by rw [← h5]; exact findClass_of_methodNamed Bo.named, Bo.returns, fun hi => by rw [(name_of_methodNamed Bo.named Bo.method).1]; exact h6 hi, hT, hR.size, hR.2.2.2.1, hC⟩
      ⟨Nat.le_refl _, Nat.le_refl _, Nat.le_refl _, Nat.le_refl _⟩ hB s.heap [] _ [] hR (fun z hz => by cases hz) (entL_lR hnj hls) rfl
    rw [Nat.sub_self, Nat.sub_self] at h9
    exact h9
  by_cases hq : (mi k).2.2.2.2.1 = []
  · exact vx_ofW hpl (by rw [mword_code hq]) (fun p e s m args below meth c s₁ Bo hml hT hP => body p e s m args below meth c s₁ Bo hml (by
      rw [hq]
      have : c.exceptionTable.toList = [] := List.eq_nil_iff_forall_not_mem.mpr (fun x hx => hT x hx)
      rw [this]; rfl) hP)
  · exact vx_ofWH hpl (by rw [mword_with hq]) (fun p e s m args below meth c s₁ Bo hml hP => body p e s m args below meth c s₁ Bo hml (by
      have hw := atoms_spec (ws := [mword (mi k)]) Bo.pre _ List.mem_cons_self
      rw [mword_with hq] at hw
      rw [vx_table (x := (mi k).1) Bo hw]
      unfold tableOf
      rw [List.map_map]
      exact (List.map_congr_left (g := id) (fun q _ => rfl)).trans (List.map_id _)) hP)
theorem sound_at {k d : Nat} (hk : mdOK k) (hpl : plainName (mi k).1.cls = true) (hS : okS2 d (SpecF md d)) {as : List Value} {A : HP} {Post : Out → HP → Prop} (h : Sp (d + 1) k as A Post) : ∃ (o : Out) (A' : HP), Post o A' ∧ okO o ∧ hn A ≤ hn A' ∧ hw A ≤ hw A' ∧ MetOK (mi k) (d + 1) as A o A' := by
  obtain ⟨h1, h2⟩ := h
  obtain ⟨h3, h4⟩ := and_t h1
  obtain ⟨o, A', hP, hok, e1, e2, hI9⟩ := h2 _ (gw_ok (n0 := hn A) (w0 := hw A) (Post := Post) hk hS) (Nat.le_refl _) (Nat.le_refl _)
  exact ⟨o, A', hP, hok, e1, e2, met_ok hk hpl h4 (Nat.le_of_ble_eq_true h3) hI9⟩
theorem sound (hall : ∀ k, 0 < k → k < 173 → mdOK k) : ∀ d, okS2 d (SpecF md d)
  | 0 => fun k _ _ as A Post h => h.elim
  | d + 1 => fun k h0 hk as A Post h => sound_at (hall k h0 hk) (mOK_all h0 hk).2.2.2.1 (sound hall d) h
