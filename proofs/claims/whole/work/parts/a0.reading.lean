/-! how commands are read: mathematics -/
def sg (l : List Int) (p : Nat) : Int := if p < l.length then l.getD p 0 else -1
theorem sg_in {l : List Int} {p : Nat} (h : p < l.length) : sg l p = l.getD p 0 := if_pos h
theorem sg_out {l : List Int} {p : Nat} (h : ¬ p < l.length) : sg l p = -1 := if_neg h
theorem sg_bd {l : List Int} (h : chL l) (p : Nat) : -1 ≤ sg l p ∧ sg l p < 128 := by
  unfold sg
  split
  · rename_i q; have := h.at q; omega
  · omega
theorem sg_lt {l : List Int} {p : Nat} (h : sg l p ≠ -1) : p < l.length := by
  by_cases q : p < l.length
  · exact q
  · exact absurd (sg_out q) h
abbrev PS : Type := Bool × Nat × List Int × Int
abbrev dgP (c : Int) : Prop := 48 ≤ c ∧ c ≤ 57
/-- a part of a form is read: D a digit, N a number, K a kind, else the sign itself -/
def stp (l : List Int) (s : PS) (c : Int) : PS := if s.1 = false then s else
  if c = 68 then (if dgP (sg l s.2.1) then (true, s.2.1 + 1, s.2.2.1 ++ [sg l s.2.1 - 48], s.2.2.2) else (false, s.2))
  else if c = 78 then (if dgP (sg l s.2.1) then (if dgP (sg l (s.2.1 + 1)) then (true, s.2.1 + 2, s.2.2.1 ++ [10 * (sg l s.2.1 - 48) + (sg l (s.2.1 + 1) - 48)], s.2.2.2) else (true, s.2.1 + 1, s.2.2.1 ++ [sg l s.2.1 - 48], s.2.2.2)) else (false, s.2))
  else if c = 75 then (if sg l s.2.1 = 60 ∨ sg l s.2.1 = 61 ∨ sg l s.2.1 = 35 then (true, s.2.1 + 1, s.2.2.1, sg l s.2.1) else (false, s.2))
  else if sg l s.2.1 = c then (true, s.2.1 + 1, s.2.2) else (false, s.2)
theorem stp_f {l : List Int} {s : PS} (h : s.1 = false) (c : Int) : stp l s c = s := if_pos h
theorem fold_f {l : List Int} : ∀ (t : List Int) {s : PS}, s.1 = false → t.foldl (stp l) s = s
  | [], _, _ => rfl
  | c :: t, s, h => by
    show t.foldl (stp l) (stp l s c) = s
    rw [stp_f h]
    exact fold_f t h
def fm (l : List Int) (p : Nat) (t : List Int) : PS := t.foldl (stp l) (true, p, [], 0)
/-- what holds of numbers that are read -/
def nsP (ns : List Int) : Prop := ∀ i, i < ns.length → 0 ≤ ns.getD i 0 ∧ ns.getD i 0 ≤ 99
theorem nsP.app {ns : List Int} (h : nsP ns) {v : Int} (hv : 0 ≤ v ∧ v ≤ 99) : nsP (ns ++ [v]) := fun i hi => by
  rw [List.length_append] at hi
  have hi : i < ns.length + 1 := hi
  rw [getD_app]
  split
  · rename_i q; exact h i q
  · rename_i q
    rw [show i - ns.length = 0 by omega]
    exact hv
def nmC (c : Int) : Nat := if c = 68 ∨ c = 78 then 1 else 0
def nmL : List Int → Nat
  | [] => 0
  | c :: t => nmC c + nmL t
theorem stp_ns {l : List Int} {s : PS} {c : Int} (h : nsP s.2.2.1) : nsP (stp l s c).2.2.1 := by
  unfold stp
  split
  · exact h
  · split
    · split
      · rename_i q; unfold dgP at q; exact h.app ⟨by omega, by omega⟩
      · exact h
    · split
      · split
        · rename_i q
          unfold dgP at q
          split
          · rename_i q2; unfold dgP at q2; exact h.app ⟨by omega, by omega⟩
          · exact h.app ⟨by omega, by omega⟩
        · exact h
      · split
        · split
          · exact h
          · exact h
        · split
          · exact h
          · exact h
theorem fold_ns {l : List Int} : ∀ (t : List Int) {s : PS}, nsP s.2.2.1 → nsP (t.foldl (stp l) s).2.2.1
  | [], _, h => h
  | c :: t, _, h => fold_ns t (stp_ns (c := c) h)
theorem fm_ns (l : List Int) (p : Nat) (t : List Int) : nsP (fm l p t).2.2.1 := fold_ns t (fun i hi => absurd hi (by simp))
/-- a part that is read -/
theorem stp_ok {l : List Int} {s : PS} {c : Int} (hc : 0 ≤ c) (h : (stp l s c).1 = true) : s.1 = true ∧ (stp l s c).2.2.1.length = s.2.2.1.length + nmC c ∧ s.2.1 + 1 ≤ (stp l s c).2.1 ∧ (stp l s c).2.1 ≤ l.length ∧ (c ≠ 75 → (stp l s c).2.2.2 = s.2.2.2) ∧ (c = 75 → (stp l s c).2.2.2 = 60 ∨ (stp l s c).2.2.2 = 61 ∨ (stp l s c).2.2.2 = 35) := by
  by_cases hs : s.1 = false
  · rw [stp_f hs, hs] at h
    exact absurd h (by decide)
  · have hs1 : s.1 = true := by cases e : s.1 <;> simp_all
    refine ⟨hs1, ?_⟩
    unfold stp at h ⊢
    rw [if_neg hs] at h ⊢
    unfold nmC
    by_cases c1 : c = 68
    · rw [if_pos c1] at h ⊢
      by_cases d : dgP (sg l s.2.1)
      · rw [if_pos d]
        unfold dgP at d
        have := sg_lt (l := l) (p := s.2.1) (by omega)
        refine ⟨by rw [List.length_append, if_pos (Or.inl c1)]; rfl, Nat.le_refl _, this, fun _ => rfl, fun z => by omega⟩
      · rw [if_neg d] at h; exact absurd h Bool.false_ne_true
    · rw [if_neg c1] at h ⊢
      by_cases c2 : c = 78
      · rw [if_pos c2] at h ⊢
        by_cases d : dgP (sg l s.2.1)
        · rw [if_pos d]
          unfold dgP at d
          have q1 := sg_lt (l := l) (p := s.2.1) (by omega)
          by_cases d2 : dgP (sg l (s.2.1 + 1))
          · rw [if_pos d2]
            unfold dgP at d2
            have q2 := sg_lt (l := l) (p := s.2.1 + 1) (by omega)
            refine ⟨by rw [List.length_append, if_pos (Or.inr c2)]; rfl, by show s.2.1 + 1 ≤ s.2.1 + 2; omega, by show s.2.1 + 2 ≤ l.length; omega, fun _ => rfl, fun z => by omega⟩
          · rw [if_neg d2]
            refine ⟨by rw [List.length_append, if_pos (Or.inr c2)]; rfl, Nat.le_refl _, q1, fun _ => rfl, fun z => by omega⟩
        · rw [if_neg d] at h; exact absurd h Bool.false_ne_true
      · rw [if_neg c2] at h ⊢
        rw [if_neg (show ¬ (c = 68 ∨ c = 78) by omega)]
        by_cases c3 : c = 75
        · rw [if_pos c3] at h ⊢
          by_cases d : sg l s.2.1 = 60 ∨ sg l s.2.1 = 61 ∨ sg l s.2.1 = 35
          · rw [if_pos d]
            have := sg_lt (l := l) (p := s.2.1) (by omega)
            exact ⟨rfl, Nat.le_refl _, this, fun z => absurd c3 z, fun _ => d⟩
          · rw [if_neg d] at h; exact absurd h Bool.false_ne_true
        · rw [if_neg c3] at h ⊢
          by_cases d : sg l s.2.1 = c
          · rw [if_pos d] at h ⊢
            refine ⟨rfl, Nat.le_refl _, ?_, fun _ => rfl, fun z => absurd z c3⟩
            exact sg_lt (l := l) (p := s.2.1) (by omega)
          · rw [if_neg d] at h; exact absurd h Bool.false_ne_true

theorem fold_ok {l : List Int} : ∀ (t : List Int) {s : PS}, (∀ c ∈ t, 0 ≤ c) → (t.foldl (stp l) s).1 = true → s.1 = true ∧ (t.foldl (stp l) s).2.2.1.length = s.2.2.1.length + nmL t ∧ s.2.1 + t.length ≤ (t.foldl (stp l) s).2.1 ∧ (s.2.1 ≤ l.length → (t.foldl (stp l) s).2.1 ≤ l.length)
  | [], s, _, h => ⟨h, rfl, Nat.le_refl _, fun q => q⟩
  | c :: t, s, hc, h => by
    obtain ⟨a1, a2, a3, a4⟩ := fold_ok t (s := stp l s c) (fun d hd => hc d (List.mem_cons_of_mem _ hd)) h
    obtain ⟨b1, b2, b3, b4, -⟩ := stp_ok (hc c List.mem_cons_self) a1
    refine ⟨b1, ?_, ?_, fun _ => a4 b4⟩
    · show (t.foldl (stp l) (stp l s c)).2.2.1.length = _
      rw [a2, b2]
      show s.2.2.1.length + nmC c + nmL t = s.2.2.1.length + (nmC c + nmL t)
      omega
    · show s.2.1 + (t.length + 1) ≤ (t.foldl (stp l) (stp l s c)).2.1
      omega
/-- the position never runs past the text -/
theorem stp_le {l : List Int} {s : PS} {c : Int} (hc : 0 ≤ c) (h : s.2.1 ≤ l.length) : (stp l s c).2.1 ≤ l.length := by
  by_cases e : (stp l s c).1 = true
  · exact (stp_ok hc e).2.2.2.1
  · have : (stp l s c).2 = s.2 := by
      unfold stp at e ⊢
      split
      · rfl
      · rename_i q0
        rw [if_neg q0] at e
        split
        · rename_i q1
          rw [if_pos q1] at e
          split
          · rename_i q2; rw [if_pos q2] at e; exact absurd rfl e
          · rfl
        · rename_i q1
          rw [if_neg q1] at e
          split
          · rename_i q2
            rw [if_pos q2] at e
            split
            · rename_i q3
              rw [if_pos q3] at e
              split at e <;> exact absurd rfl e
            · rfl
          · rename_i q2
            rw [if_neg q2] at e
            split
            · rename_i q3
              rw [if_pos q3] at e
              split
              · rename_i q4; rw [if_pos q4] at e; exact absurd rfl e
              · rfl
            · rename_i q3
              rw [if_neg q3] at e
              split
              · rename_i q4; rw [if_pos q4] at e; exact absurd rfl e
              · rfl
    rw [this]
    exact h
theorem fold_le {l : List Int} : ∀ (t : List Int) {s : PS}, (∀ c ∈ t, 0 ≤ c) → s.2.1 ≤ l.length → (t.foldl (stp l) s).2.1 ≤ l.length
  | [], _, _, h => h
  | c :: t, _, hc, h => fold_le t (fun d hd => hc d (List.mem_cons_of_mem _ hd)) (stp_le (hc c List.mem_cons_self) h)
/-- forms -/
def fDrop : List Int := [100, 114, 111, 112, 32, 78]
def fDoor : List Int := [100, 111, 111, 114, 32, 78, 45, 78]
def fFrame : List Int := [102, 114, 97, 109, 101, 32, 68, 32, 78, 45, 78]
def fNarrow : List Int := [110, 97, 114, 114, 111, 119, 32, 68, 32, 78, 45, 78]
def fPass : List Int := [112, 97, 115, 115]
def fSettle : List Int := [115, 101, 116, 116, 108, 101]
def fReset : List Int := [114, 101, 115, 101, 116]
def fBind : List Int := [68, 75, 68, 43, 78]
/-- the verb and the form of the command that begins at p -/
def vb (l : List Int) (p : Nat) : Int × List Int :=
  if sg l p = 100 then (if sg l (p + 1) = 114 then (5, fDrop) else (1, fDoor))
  else if sg l p = 102 then (2, fFrame) else if sg l p = 110 then (3, fNarrow) else if sg l p = 112 then (6, fPass) else if sg l p = 115 then (7, fSettle) else if sg l p = 114 then (8, fReset) else (4, fBind)
def cm (l : List Int) (p : Nat) : PS := fm l p (vb l p).2
theorem vb_form (l : List Int) (p : Nat) : (∀ c ∈ (vb l p).2, 0 ≤ c) ∧ 4 ≤ (vb l p).2.length ∧ nmL (vb l p).2 = (if (vb l p).1 = 1 then 2 else if (vb l p).1 = 2 ∨ (vb l p).1 = 3 ∨ (vb l p).1 = 4 then 3 else if (vb l p).1 = 5 then 1 else 0) ∧ (1 ≤ (vb l p).1 ∧ (vb l p).1 ≤ 8) ∧ ((vb l p).1 = 4 ↔ (vb l p).2 = fBind) := by
  unfold vb
  split
  · split
    · exact ⟨by decide, by decide, by decide, by decide, by decide⟩
    · exact ⟨by decide, by decide, by decide, by decide, by decide⟩
  · split
    · exact ⟨by decide, by decide, by decide, by decide, by decide⟩
    · split
      · exact ⟨by decide, by decide, by decide, by decide, by decide⟩
      · split
        · exact ⟨by decide, by decide, by decide, by decide, by decide⟩
        · split
          · exact ⟨by decide, by decide, by decide, by decide, by decide⟩
          · split
            · exact ⟨by decide, by decide, by decide, by decide, by decide⟩
            · exact ⟨by decide, by decide, by decide, by decide, by decide⟩
theorem cm_ok {l : List Int} {p : Nat} (h : (cm l p).1 = true) : p + 4 ≤ (cm l p).2.1 ∧ (cm l p).2.1 ≤ l.length ∧ (cm l p).2.2.1.length = nmL (vb l p).2 := by
  obtain ⟨a, b, c, -⟩ := vb_form l p
  obtain ⟨-, h2, h3, h4⟩ := fold_ok (l := l) (vb l p).2 (s := (true, p, [], 0)) a h
  have h3 : p + (vb l p).2.length ≤ (cm l p).2.1 := h3
  have hp : p ≤ l.length := by
    have h5 := h
    unfold cm fm at h5
    cases e : (vb l p).2 with
    | nil => rw [e] at b; exact absurd b (by decide)
    | cons c0 t =>
      rw [e] at h5
      have q := (fold_ok t (s := stp l (true, p, [], 0) c0) (fun d hd => a d (by rw [e]; exact List.mem_cons_of_mem _ hd)) h5).1
      have r := (stp_ok (a c0 (by rw [e]; exact List.mem_cons_self)) q).2.2.1
      have r2 := (stp_ok (a c0 (by rw [e]; exact List.mem_cons_self)) q).2.2.2.1
      have r : p + 1 ≤ _ := r
      omega
  refine ⟨by omega, h4 hp, ?_⟩
  have h2 : (cm l p).2.2.1.length = 0 + nmL (vb l p).2 := h2
  omega
theorem cm_le {l : List Int} {p : Nat} (hp : p ≤ l.length) : (cm l p).2.1 ≤ l.length := fold_le _ (vb_form l p).1 hp
/-- where commands begin -/
def cp (l : List Int) : Nat → Nat
  | 0 => 0
  | k + 1 => (cm l (cp l k)).2.1 + 1
/-- so many commands are read, and a further one is due -/
def rdN (l : List Int) (n : Nat) : Prop := ∀ k, k < n → (cm l (cp l k)).1 = true ∧ sg l (cm l (cp l k)).2.1 = 59
theorem rdN.succ {l : List Int} {n : Nat} (h : rdN l n) (h1 : (cm l (cp l n)).1 = true) (h2 : sg l (cm l (cp l n)).2.1 = 59) : rdN l (n + 1) := fun k hk => if e : k = n then by rw [e]; exact ⟨h1, h2⟩ else h k (by omega)
theorem rdN_cp {l : List Int} : ∀ {n : Nat}, rdN l n → 5 * n ≤ cp l n ∧ cp l n ≤ l.length
  | 0, _ => ⟨Nat.le_refl _, Nat.zero_le _⟩
  | n + 1, h => by
    have a := rdN_cp (n := n) (fun k hk => h k (by omega))
    obtain ⟨b1, b2⟩ := h n (by omega)
    have c := cm_ok b1
    have d := sg_lt (l := l) (p := (cm l (cp l n)).2.1) (by omega)
    show 5 * (n + 1) ≤ (cm l (cp l n)).2.1 + 1 ∧ (cm l (cp l n)).2.1 + 1 ≤ l.length
    omega
/-- the whole text is read: n + 1 commands -/
def outS (l : List Int) (n : Nat) : Prop := rdN l n ∧ (cm l (cp l n)).1 = true ∧ l.length ≤ (cm l (cp l n)).2.1
/-- a syntax error at e -/
def outF (l : List Int) (e : Nat) : Prop := ∃ n, rdN l n ∧ (((cm l (cp l n)).1 = false ∧ e = (cm l (cp l n)).2.1) ∨ ((cm l (cp l n)).1 = true ∧ (cm l (cp l n)).2.1 < l.length ∧ sg l (cm l (cp l n)).2.1 ≠ 59 ∧ e = (cm l (cp l n)).2.1))
/-- a stop: here no further command is due -/
def stopA (l : List Int) (n : Nat) : Prop := rdN l n ∧ ¬ ((cm l (cp l n)).1 = true ∧ sg l (cm l (cp l n)).2.1 = 59)
theorem stopA.one {l : List Int} {n k : Nat} (h : stopA l n) (h2 : stopA l k) : n = k := by
  by_cases e : n < k
  · exact absurd (h2.1 n e) h.2
  · by_cases e2 : k < n
    · exact absurd (h.1 k e2) h2.2
    · omega
theorem outS.stop {l : List Int} {n : Nat} (h : outS l n) : stopA l n := ⟨h.1, fun z => by have := sg_lt (l := l) (p := (cm l (cp l n)).2.1) (by omega); have := h.2.2; omega⟩
theorem outS.one {l : List Int} {n k : Nat} (h : outS l n) (h2 : outS l k) : n = k := h.stop.one h2.stop
theorem outF.stop {l : List Int} {e : Nat} (h : outF l e) : ∃ n, stopA l n ∧ e = (cm l (cp l n)).2.1 ∧ ((cm l (cp l n)).1 = false ∨ (cm l (cp l n)).2.1 < l.length) := by
  obtain ⟨n, h1, h2⟩ := h
  rcases h2 with ⟨a, b⟩ | ⟨a, b, c, d⟩
  · exact ⟨n, ⟨h1, fun z => by rw [a] at z; exact absurd z.1 (by decide)⟩, b, Or.inl a⟩
  · exact ⟨n, ⟨h1, fun z => c z.2⟩, d, Or.inr b⟩
theorem outF.one {l : List Int} {e f : Nat} (h : outF l e) (h2 : outF l f) : e = f := by
  obtain ⟨n, a1, a2, -⟩ := h.stop
  obtain ⟨k, b1, b2, -⟩ := h2.stop
  rw [a2, b2, a1.one b1]
theorem outS.noF {l : List Int} {n e : Nat} (h : outS l n) (h2 : outF l e) : False := by
  obtain ⟨k, b1, b2, b3⟩ := h2.stop
  have := h.stop.one b1
  subst this
  rcases b3 with q | q
  · rw [h.2.1] at q; exact absurd q (by decide)
  · have := h.2.2; omega

