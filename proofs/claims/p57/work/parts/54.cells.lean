/-! reading and writing cells -/
theorem celA_1 {B : Nat} {CS : KT} {dA : Nat → ClassId} {A : HP} {a n : Nat} (h : hK A a = (1, n)) : celA B CS dA A a = some (.inl (dA 1, n, .inl (hI A a))) := by unfold celA; rw [h]
theorem celA_2 {B : Nat} {CS : KT} {dA : Nat → ClassId} {A : HP} {a n : Nat} (h : hK A a = (2, n)) : celA B CS dA A a = some (.inl (dA 2, n, .inr (.inl (hJ A a)))) := by unfold celA; rw [h]
theorem celA_3 {B : Nat} {CS : KT} {dA : Nat → ClassId} {A : HP} {a n : Nat} (h : hK A a = (3, n)) : celA B CS dA A a = some (.inl (dA 3, n, .inl (hI A a))) := by unfold celA; rw [h]
theorem celA_4 {B : Nat} {CS : KT} {dA : Nat → ClassId} {A : HP} {a n : Nat} (h : hK A a = (4, n)) : celA B CS dA A a = some (.inl (dA 4, n, .inl (hI A a))) := by unfold celA; rw [h]
theorem celA_5 {B : Nat} {CS : KT} {dA : Nat → ClassId} {A : HP} {a n : Nat} (h : hK A a = (5, n)) : celA B CS dA A a = some (.inl (dA 5, n, .inr (.inr (.inr (.inl (hU A a)))))) := by unfold celA; rw [h]
theorem celA_6 {B : Nat} {CS : KT} {dA : Nat → ClassId} {A : HP} {a n : Nat} (h : hK A a = (6, n)) : celA B CS dA A a = some (.inl (dA 6, n, .inr (.inr (.inr (.inr (fun j => (hR A a j).map (adr B CS))))))) := by unfold celA; rw [h]
theorem celA_7 {B : Nat} {CS : KT} {dA : Nat → ClassId} {A : HP} {a n : Nat} (h : hK A a = (7, n)) : celA B CS dA A a = some (.inl (dA 7, n, .inr (.inr (.inr (.inr (fun j => (hR A a j).map (adr B CS))))))) := by unfold celA; rw [h]
theorem celA_o {B : Nat} {CS : KT} {dA : Nat → ClassId} {A : HP} {a ci : Nat} (h : hK A a = (10 + ci, 0)) (h11 : ci ≠ 11 ∨ a < BIG) : celA B CS dA A a = some (.inr (ci, objL B CS A a (ftag ci))) := by
  unfold celA
  rw [h, Nat.add_comm 10 ci]
  exact if_neg (by omega)
theorem P1 {D : va_G} {cl : List vw_C} {q : Nat × va_E} {H : Heap} (h : va_at D cl q H) : va_P D cl [q] H := by
  intro k x hk
  match k, hk with
  | 0, hk => cases hk; exact h
theorem objL_get {B : Nat} {CS : KT} {A : HP} {a k : Nat} {ts : List Nat} (hk : k < ts.length) : (objL B CS A a ts)[k]? = some (fvl B CS A a k (ts.getD k 0)) := by
  unfold objL
  rw [List.getElem?_map, List.getElem?_range hk]
  rfl
theorem objL_len {B : Nat} {CS : KT} {A : HP} {a : Nat} {ts : List Nat} : (objL B CS A a ts).length = ts.length := by
  unfold objL
  rw [List.length_map, List.length_range]
theorem objL_set {B : Nat} {CS : KT} {A A' : HP} {a k : Nat} {ts : List Nat} {v : Value} (hv : k < ts.length → fvl B CS A' a k (ts.getD k 0) = v) (ho : ∀ j t, j ≠ k → fvl B CS A' a j t = fvl B CS A a j t) : objL B CS A' a ts = (objL B CS A a ts).set k v := by
  apply List.ext_getElem?
  intro j
  by_cases hj : j < ts.length
  · rw [objL_get hj]
    by_cases e : j = k
    · subst e
      rw [List.getElem?_set_self (by rw [objL_len]; exact hj), hv hj]
    · rw [List.getElem?_set_ne (Ne.symm e), objL_get hj, ho j _ e]
  · rw [List.getElem?_eq_none (by rw [objL_len]; omega), List.getElem?_eq_none (by rw [List.length_set, objL_len]; omega)]
/-- what the tables must say for field k of class ci, by a row of the pool of own -/
def fOK (own : String) (ix ci k : Nat) : Prop := ∃ q : vw_C, wcl[ci]? = some q ∧ k < q.2.2 ∧ Jvm.Cond.fieldLink own ix (q.2.1 k).1 (q.2.1 k).2.1 (q.2.1 k).2.2.1 ∈ lw_tb
/-- and for writing it -/
def pOK (own : String) (ini : Bool) (ix ci k t : Nat) : Prop := ∃ q : vw_C, wcl[ci]? = some q ∧ k < q.2.2 ∧ Jvm.Cond.fieldLink own ix (q.2.1 k).1 (q.2.1 k).2.1 (q.2.1 k).2.2.1 ∈ lw_tb ∧ ((q.2.1 k).2.2.2 = false ∨ (ini = true ∧ (q.2.1 k).1 = own)) ∧ (ftag ci).getD k 0 = t ∧
  (match t with
    | 0 => ffty ci k = .int
    | 1 => ffty ci k = .long
    | 2 => (∃ n, ffty ci k = .object n) ∨ ∃ u, ffty ci k = .array u
    | 3 => ffty ci k = .char
    | 4 => ffty ci k = .byte
    | _ => ffty ci k = .boolean)
section FW
variable {p : Program} {l : Launch} {e : Env} {R : Room} {s : State} {m : MethodId} {args : Array Value} {below : List Frame} {meth : Method} {c : Code} {H : Heap} {locs : List Loc} {cells slots : Nat} {Q : State → Prop}
variable {cc : ByteArray} {pc : Nat} {ls : Array Slot} {rest : List Value} {D : va_G} {cl : List vw_C} {a : Nat} {tys : List (ClassId × FieldType)}
/-- putfield, and what it leaves -/
theorem w_put (hexec : p.tables.exec = Jvm.exec) (hb : c.code = cc) {own ref C : String} {T : u_T} {N ci index : Nat} {Ts : List Jvm.Cond} (hts : ∀ w ∈ Ts, w.before args s = true) (hin : ∀ w ∈ u_ws C T N, w ∈ Ts) (ty0 : Nat → FieldType) (hty : ∀ k, k < N → parseFieldDescriptor (T k).2.2.1 = some (ty0 k)) (hnm : ∀ a, a < N → ∀ b, b < N → a ≠ b → (T a).2.1 ≠ (T b).2.1) (hown : s.vm.findClass own = some m.cls) (hK : va_K D cl tys s) {fs : List Value} (hP : va_at D cl (a, .inr (ci, fs)) H) (hc : cl[ci]? = some (C, T, N)) (k : Nat) (hk : k < N) (hlink : (Jvm.Cond.fieldLink own index ref (T k).2.1 (T k).2.2.1).before args s = true) (hsame : ∀ x, s.fieldFound? (T k).1 (T k).2.1 (T k).2.2.1 = some x → s.fieldFound? ref (T k).2.1 (T k).2.2.1 = some x) (hfin : (T k).2.2.2 = false ∨ (meth.name = "<init>" ∧ (T k).1 = own)) {ty : FieldType} {v : Value} (hd : parseFieldDescriptor (T k).2.2.1 = some ty) (hn : narrow ty v = v) (hfit : fits ty v = true) (hl : k < fs.length)
    (hdg : decode cc pc = .ok (.putfield index, 3)) (kk : ∀ (H1 : Heap) (z : Loc), z.base = a → H1.size = H.size → (∀ q : Nat, q ≠ a → H1[q]? = H[q]?) → va_at D cl (a, .inr (ci, fs.set k v)) H1 → W p l e R s m args below meth c H1 (locs ++ [z]) cells slots Q (F0 m (pc + 3) ls rest)) : W p l e R s m args below meth c H locs cells slots Q (F0 m pc ls (v :: .ref a :: rest)) := by
  have hap := va_apart (own := own) hts hin ty0 hty hnm hK hc
  obtain ⟨r, h1, ce, q1, q2, q3, q4⟩ := hP
  have hr : r = (C, T, N) := Option.some.inj (h1.symm.trans hc)
  subst hr
  obtain ⟨hS, hfc, kC, hkC, hkind⟩ := hK.1 ci _ hc
  obtain ⟨cf, kf, fi, f, hi, hsl⟩ := hS k hk
  have hlay := hts _ (hin _ (u_in_lay hk))
  unfold u_lay at hlay
  have hst := (u_facts hfc hkC (u_lays hts hin hk) hi).1
  cases hq : (T k).2.2.2 with
  | false =>
    rw [if_neg (by rw [hq]; decide)] at hlay
    have h6 := u_store hfc hkC hkind hlay hi hd hn hfit
    refine W.putK hexec hb (f := f) ⟨hown, hlink, ⟨_, _, _, hsame _ hi⟩, hst⟩ (by rw [q2]; exact h6) q1 q3 (by rw [hsl]; exact k2_hasslot (q4 k hk)) rfl rfl hdg fun H' e1 e2 e3 => ?_
    rw [hsl] at e1 ⊢
    exact kk H' _ rfl e2 e3 ⟨_, hc, t_OB.to (V := updV (vp_V fs) k v) ⟨_, e1, q2, q3, t_set q4 hap hk v⟩ (fun j _ => vp_updV_set hl v j)⟩
  | true =>
    rw [if_pos hq] at hlay
    obtain ⟨hin2, hdecl⟩ := hfin.resolve_left (by rw [hq]; decide)
    have hcf : m.cls = cf := by
      obtain ⟨_, _, c', _, _, _, -, -, hf', -, -, -, hown2, -⟩ := Cond.laysFinal_spec hlay
      have e1 : c' = cf := by have := hi.symm.trans hf'; simp at this; exact this.1.symm
      rw [hdecl] at hown2
      rw [← e1]; exact Option.some.inj (hown.symm.trans hown2)
    have h6 := u_fits hfc hkC hkind (Or.inr hlay) hi hd hn hfit
    refine W.putFinK hexec hb hown hlink (hsame _ hi) hst hcf hin2 (by rw [q2]; exact h6) q1 q3 (by rw [hsl]; exact k2_hasslot (q4 k hk)) rfl rfl hdg fun H' e1 e2 e3 => ?_
    rw [hsl] at e1 ⊢
    exact kk H' _ rfl e2 e3 ⟨_, hc, t_OB.to (V := updV (vp_V fs) k v) ⟨_, e1, q2, q3, t_set q4 hap hk v⟩ (fun j _ => vp_updV_set hl v j)⟩
theorem w_iast (hexec : p.tables.exec = Jvm.exec) (hb : c.code = cc) (hK : va_K D cl tys s) (t0 : Nat) {cA : ClassId} {n : Nat} {f g : Nat → Int32} (hP : va_at D cl (a, .inl (cA, n, .inl f)) H) (ht : tys[t0]? = some (cA, .int)) {i : Int32} {x : Int32} (hin : vp_in i n) (hdg : decode cc pc = .ok (.iastore, 1)) (hg : ∀ q, g q = if q = i.toNatClampNeg then x else f q)
    (kk : ∀ (H1 : Heap) (z : Loc), z.base = a → H1.size = H.size → (∀ q : Nat, q ≠ a → H1[q]? = H[q]?) → va_at D cl (a, .inl (cA, n, .inl g)) H1 → W p l e R s m args below meth c H1 (locs ++ [z]) cells slots Q (F0 m (pc + 1) ls rest)) : W p l e R s m args below meth c H locs cells slots Q (F0 m pc ls (.int x :: .int i :: .ref a :: rest)) := by
  refine W.iast hexec hb hP ((hK.2 t0 _ ht).1 n (fun j => .int (f j))) (fun q => by cases q) (by show ¬ (i < 0 ∨ (arrV _ _ _).slots.size ≤ _); rw [arrV_size]; exact hin) rfl rfl hdg fun H1 e1 z oq => ?_
  refine kk H1 _ rfl z oq ?_
  show H1[a]? = some (vp_cell _ _)
  rw [e1, vp_cell_i, vp_cell_i, arrV_store]
  congr 2
  funext q
  rw [hg q]
  by_cases hq : q = i.toNatClampNeg
  · subst hq
    simp [updV]
    try rfl
  · simp [updV, hq]
theorem w_cast (hexec : p.tables.exec = Jvm.exec) (hb : c.code = cc) (hK : va_K D cl tys s) (t0 : Nat) {cA : ClassId} {n : Nat} {f g : Nat → Int32} (hP : va_at D cl (a, .inl (cA, n, .inl f)) H) (ht : tys[t0]? = some (cA, .char)) {i : Int32} {x : Int32} (hin : vp_in i n) (hdg : decode cc pc = .ok (.castore, 1)) (hg : ∀ q, g q = if q = i.toNatClampNeg then vp_nar .char x else f q)
    (kk : ∀ (H1 : Heap) (z : Loc), z.base = a → H1.size = H.size → (∀ q : Nat, q ≠ a → H1[q]? = H[q]?) → va_at D cl (a, .inl (cA, n, .inl g)) H1 → W p l e R s m args below meth c H1 (locs ++ [z]) cells slots Q (F0 m (pc + 1) ls rest)) : W p l e R s m args below meth c H locs cells slots Q (F0 m pc ls (.int x :: .int i :: .ref a :: rest)) := by
  refine W.cast hexec hb hP ((hK.2 t0 _ ht).1 n (fun j => .int (f j))) (fun q => by cases q) (by show ¬ (i < 0 ∨ (arrV _ _ _).slots.size ≤ _); rw [arrV_size]; exact hin) rfl rfl hdg fun H1 e1 z oq => ?_
  refine kk H1 _ rfl z oq ?_
  show H1[a]? = some (vp_cell _ _)
  rw [e1, vp_cell_i, vp_cell_i, arrV_store]
  congr 2
  funext q
  rw [hg q]
  by_cases hq : q = i.toNatClampNeg
  · subst hq
    simp [updV, vp_nar]
    try rfl
  · simp [updV, hq]
theorem w_bast (hexec : p.tables.exec = Jvm.exec) (hb : c.code = cc) (hK : va_K D cl tys s) (t0 : Nat) {cA : ClassId} {n : Nat} {f g : Nat → Int32} (hP : va_at D cl (a, .inl (cA, n, .inl f)) H) (ht : tys[t0]? = some (cA, .byte)) {i : Int32} {x : Int32} (hin : vp_in i n) (hdg : decode cc pc = .ok (.bastore, 1)) (hg : ∀ q, g q = if q = i.toNatClampNeg then vp_nar .byte x else f q)
    (kk : ∀ (H1 : Heap) (z : Loc), z.base = a → H1.size = H.size → (∀ q : Nat, q ≠ a → H1[q]? = H[q]?) → va_at D cl (a, .inl (cA, n, .inl g)) H1 → W p l e R s m args below meth c H1 (locs ++ [z]) cells slots Q (F0 m (pc + 1) ls rest)) : W p l e R s m args below meth c H locs cells slots Q (F0 m pc ls (.int x :: .int i :: .ref a :: rest)) := by
  refine W.bast hexec hb hP ((hK.2 t0 _ ht).1 n (fun j => .int (f j))) (fun q => by cases q) (by show ¬ (i < 0 ∨ (arrV _ _ _).slots.size ≤ _); rw [arrV_size]; exact hin) rfl rfl hdg fun H1 e1 z oq => ?_
  refine kk H1 _ rfl z oq ?_
  show H1[a]? = some (vp_cell _ _)
  rw [e1, vp_cell_i, vp_cell_i, arrV_store]
  congr 2
  funext q
  rw [hg q]
  by_cases hq : q = i.toNatClampNeg
  · subst hq
    simp [updV, vp_nar]
    try rfl
  · simp [updV, hq]
theorem w_last (hexec : p.tables.exec = Jvm.exec) (hb : c.code = cc) (hK : va_K D cl tys s) (t0 : Nat) {cA : ClassId} {n : Nat} {f g : Nat → Int64} (hP : va_at D cl (a, .inl (cA, n, .inr (.inl f))) H) (ht : tys[t0]? = some (cA, .long)) {i : Int32} {x : Int64} (hin : vp_in i n) (hdg : decode cc pc = .ok (.lastore, 1)) (hg : ∀ q, g q = if q = i.toNatClampNeg then x else f q)
    (kk : ∀ (H1 : Heap) (z : Loc), z.base = a → H1.size = H.size → (∀ q : Nat, q ≠ a → H1[q]? = H[q]?) → va_at D cl (a, .inl (cA, n, .inr (.inl g))) H1 → W p l e R s m args below meth c H1 (locs ++ [z]) cells slots Q (F0 m (pc + 1) ls rest)) : W p l e R s m args below meth c H locs cells slots Q (F0 m pc ls (.long x :: .int i :: .ref a :: rest)) := by
  refine W.last hexec hb hP ((hK.2 t0 _ ht).1 n (fun j => .long (f j))) (fun q => by cases q) (by show ¬ (i < 0 ∨ (arrV _ _ _).slots.size ≤ _); rw [arrV_size]; exact hin) rfl rfl hdg fun H1 e1 z oq => ?_
  refine kk H1 _ rfl z oq ?_
  show H1[a]? = some (vp_cell _ _)
  rw [e1, vp_cell_l, vp_cell_l, arrV_store]
  congr 2
  funext q
  rw [hg q]
  by_cases hq : q = i.toNatClampNeg
  · subst hq
    simp [updV]
    try rfl
  · simp [updV, hq]
theorem w_dast (hexec : p.tables.exec = Jvm.exec) (hb : c.code = cc) (hK : va_K D cl tys s) (t0 : Nat) {cA : ClassId} {n : Nat} {f g : Nat → UInt64} (hP : va_at D cl (a, .inl (cA, n, .inr (.inr (.inr (.inl f))))) H) (ht : tys[t0]? = some (cA, .double)) {i : Int32} {x : UInt64} (hin : vp_in i n) (hdg : decode cc pc = .ok (.dastore, 1)) (hg : ∀ q, g q = if q = i.toNatClampNeg then x else f q)
    (kk : ∀ (H1 : Heap) (z : Loc), z.base = a → H1.size = H.size → (∀ q : Nat, q ≠ a → H1[q]? = H[q]?) → va_at D cl (a, .inl (cA, n, .inr (.inr (.inr (.inl g))))) H1 → W p l e R s m args below meth c H1 (locs ++ [z]) cells slots Q (F0 m (pc + 1) ls rest)) : W p l e R s m args below meth c H locs cells slots Q (F0 m pc ls (.double x :: .int i :: .ref a :: rest)) := by
  refine W.dast hexec hb hP ((hK.2 t0 _ ht).1 n (fun j => .double (f j))) (fun q => by cases q) (by show ¬ (i < 0 ∨ (arrV _ _ _).slots.size ≤ _); rw [arrV_size]; exact hin) rfl rfl hdg fun H1 e1 z oq => ?_
  refine kk H1 _ rfl z oq ?_
  show H1[a]? = some (vp_cell _ _)
  rw [e1, vp_cell_d, vp_cell_d, arrV_store]
  congr 2
  funext q
  rw [hg q]
  by_cases hq : q = i.toNatClampNeg
  · subst hq
    simp [updV]
    try rfl
  · simp [updV, hq]
theorem w_aast (hexec : p.tables.exec = Jvm.exec) (hb : c.code = cc) (hK : va_K D cl tys s) (t0 ci : Nat) {cA : ClassId} {r : vw_C} {n v : Nat} {vs : List Value} {f g : Nat → Option Nat} (hP : va_at D cl (a, .inl (cA, n, .inr (.inr (.inr (.inr f))))) H) (ht : tys[t0]? = some (cA, .object r.1)) (hv : va_at D cl (v, .inr (ci, vs)) H) (hc : cl[ci]? = some r) {i : Int32} (hin : vp_in i n) (hdg : decode cc pc = .ok (.aastore, 1)) (hg : ∀ q, g q = if q = i.toNatClampNeg then some v else f q)
    (kk : ∀ (H1 : Heap) (z : Loc), z.base = a → H1.size = H.size → (∀ q : Nat, q ≠ a → H1[q]? = H[q]?) → va_at D cl (a, .inl (cA, n, .inr (.inr (.inr (.inr g))))) H1 → W p l e R s m args below meth c H1 (locs ++ [z]) cells slots Q (F0 m (pc + 1) ls rest)) : W p l e R s m args below meth c H locs cells slots Q (F0 m pc ls (.ref v :: .int i :: .ref a :: rest)) := by
  have hlt : i.toNatClampNeg < n := Nat.not_le.mp fun q => hin (Or.inr q)
  have h0 : ¬ i < 0 := fun q => hin (Or.inl q)
  obtain ⟨r', hr', cellV, g1, g2, g3, -⟩ := hv
  have hcls := (hK.1 ci r hc).2
  obtain ⟨kA, comp, k1, k2, k3, -⟩ := (hK.2 t0 _ ht).2
  have hcomp : comp = D.1 ci := Option.some.inj (k3.symm.trans hcls.1)
  subst hcomp
  obtain ⟨kC, hkC, -⟩ := hcls.2
  refine W.aast hexec hb hP (fun q h => by cases h) (fun h => by cases h) k1 k2 rfl hkC ⟨h0, by show _ < (arrV _ _ _).slots.size; rw [arrV_size]; exact hlt⟩ g1 (fun q h => by rw [g3] at h; cases h) (by rw [g2]; exact hkC) (by rw [g2]; exact va_assign hcls) rfl rfl hdg fun H1 e1 z oq => ?_
  refine kk H1 _ rfl z oq ?_
  show H1[a]? = some (vp_cell _ _)
  rw [e1, vp_cell_q, vp_cell_q, arrV_store]
  congr 2
  funext q
  rw [hg q]
  by_cases hq : q = i.toNatClampNeg
  · subst hq
    simp [updV, va_rf]
  · simp [updV, hq]
end FW
