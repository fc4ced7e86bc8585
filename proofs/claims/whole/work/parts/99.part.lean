/-! the class: least heights -/
theorem onM_ag {c c' : CN} {sd sd' : Nat → Int} {n : Nat} (h : ∀ p, p < n → c p = c' p ∧ sd p = sd' p) : ∀ (r p : Nat) (s : HT), p + r ≤ n → onM c sd r p s = onM c' sd' r p s
  | 0, _, _, _ => rfl
  | r + 1, p, s, hn => by
    obtain ⟨e1, e2⟩ := h p (by omega)
    show onM c sd r (p + 1) (alM (c p).1 (c p).2.1 (c p).2.2.1 (c p).2.2.2 (sd p) s) = onM c' sd' r (p + 1) (alM (c' p).1 (c' p).2.1 (c' p).2.2.1 (c' p).2.2.2 (sd' p) s)
    rw [e1, e2]
    exact onM_ag h r (p + 1) _ (by omega)
theorem clM_ag {c c' : CN} {sd sd' : Nat → Int} {n : Nat} (h : ∀ p, p < n → c p = c' p ∧ sd p = sd' p) : ∀ (k : Nat) (f : Nat → Int), clM c sd n k f = clM c' sd' n k f
  | 0, _ => rfl
  | k + 1, f => by
    rw [clM, clM, onM_ag h n 0 (f, 0) (by omega)]
    split
    · rfl
    · exact clM_ag h k _
theorem satM_sd {c : CN} {sd sd' : Nat → Int} {n : Nat} (h : ∀ p, p < n → sd p = sd' p) {p : Nat → Int} : satM c sd n p ↔ satM c sd' n p :=
  ⟨fun q k hk => by rw [← h k hk]; exact q k hk, fun q k hk => by rw [h k hk]; exact q k hk⟩
theorem satM_cg {c : CN} {sd : Nat → Int} {n D : Nat} (hc : ∀ p, p < n → (c p).2.1 < D ∧ (c p).2.2.1 < D) {p p' : Nat → Int} (e : ∀ k, k < D → p k = p' k) (h : satM c sd n p) : satM c sd n p' := fun k hk => by
  have a := h k hk
  obtain ⟨f, s⟩ := hc k hk
  unfold edg at a ⊢
  rw [← e _ f, ← e _ s]
  exact a
/-- heights within the bounds that keep all constraints, those apart by their sides -/
def pcR (R : RW) (sd p : Nat → Int) : Prop := satM (cnR R) sd (R 1).toNat p ∧ inP (ptR R) p
def lsR (R : RW) (sd L : Nat → Int) : Prop := pcR R sd L ∧ ∀ p, pcR R sd p → ∀ k, k < 6 → L k ≤ p k
theorem lsR.eq {R : RW} {sd L L' : Nat → Int} (h : lsR R sd L) (h' : lsR R sd L') : ∀ k, k < 6 → L k = L' k := fun k hk => Int.le_antisymm (h.2 _ h'.1 k hk) (h'.2 _ h.1 k hk)
theorem pcR_cg {R : RW} {q : Int} (hW : WfR q R) {sd p p' : Nat → Int} (e : ∀ k, k < 6 → p k = p' k) (h : pcR R sd p) : pcR R sd p' :=
  ⟨satM_cg (wfR_6 hW) e h.1, fun k hk => by rw [← e k hk]; exact h.2 k hk⟩
theorem pcR_sd {R : RW} {sd sd' : Nat → Int} (h : ∀ p, p < (R 1).toNat → sd p = sd' p) (p : Nat → Int) : pcR R sd p ↔ pcR R sd' p := ⟨fun q => ⟨(satM_sd h).mp q.1, q.2⟩, fun q => ⟨(satM_sd h).mpr q.1, q.2⟩⟩
theorem lsR_sd {R : RW} {sd sd' : Nat → Int} (h : ∀ p, p < (R 1).toNat → sd p = sd' p) {L : Nat → Int} (hL : lsR R sd L) : lsR R sd' L := ⟨(pcR_sd h L).mp hL.1, fun p hp => hL.2 p ((pcR_sd h p).mpr hp)⟩
theorem wfR_D {q : Int} {R : RW} (h : WfR q R) : ∀ p, p < (R 1).toNat → (cnR R p).2.1 < (R 0).toNat ∧ (cnR R p).2.2.1 < (R 0).toNat := fun p hp => by
  obtain ⟨-, -, a, b, -⟩ := h.2.2.2.2.2.2 p (by omega)
  exact ⟨by show (R (29 + 5 * p + 2)).toNat < _; omega, by show (R (29 + 5 * p + 3)).toNat < _; omega⟩
theorem wfR_k {q : Int} {R : RW} (h : WfR q R) : kOK (cnR R) (R 1).toNat := fun p hp => ⟨wfR_6 h p hp, (h.2.2.2.2.2.2 p (by omega)).2.1⟩
theorem settle_ls {q : Int} {R : RW} (hW : WfR q R) : ((stR2 R 0).1 = none → lsR R sd0 (stR2 R 0).2.1.1) ∧ ((stR2 R 0).1 ≠ none → ∀ p, ¬ pcR R sd0 p) := by
  obtain ⟨a, b⟩ := settle_least (wfR_k hW) (ptR_ok hW) 0
  refine ⟨fun e => ?_, fun e p hp => b e p hp.1 hp.2⟩
  obtain ⟨L, hL, hk⟩ := a e
  have hin : inP (ptR R) L := fun k k6 => ⟨hL.2.1 k, (hk k k6).2⟩
  have e6 : ∀ k, k < 6 → L k = (stR2 R 0).2.1.1 k := fun k k6 => (hk k k6).1
  refine ⟨pcR_cg hW e6 ⟨hL.1, hin⟩, fun p hp k k6 => ?_⟩
  rw [← e6 k k6]
  have hp' : satM (cnR R) sd0 (R 1).toNat (fun j => if j < 6 then p j else L j) := satM_cg (wfR_6 hW) (fun j hj => (if_pos hj).symm) hp.1
  have z := hL.2.2 _ hp' (fun j => by
    show (ptR R).1 j ≤ if j < 6 then p j else L j
    split
    · rename_i h; exact (hp.2 j h).1
    · exact hL.2.1 j) k
  have z : L k ≤ if k < 6 then p k else L k := z
  rw [if_pos k6] at z
  exact z
theorem climb_ls {q : Int} {R : RW} (hW : WfR q R) {sd f : Nat → Int} {T : HT} (hf : ∀ k, k < 6 → f k = (ptR R).1 k) (e : clM (cnR R) sd (R 1).toNat ((R 0).toNat + 1) f = T) : (T.2 = 0 → (∀ k : Nat, (k : Int) < R 0 → T.1 k ≤ (ptR R).2.1 k) → lsR R sd T.1) ∧ ((T.2 = 0 → ∃ k : Nat, (k : Int) < R 0 ∧ (ptR R).2.1 k < T.1 k) → ∀ p, ¬ pcR R sd p) := by
  have hD6 := hW.1
  obtain ⟨a, b⟩ := clM_iff (c := cnR R) (sd := sd) (n := (R 1).toNat) (D := (R 0).toNat) (f := f) (wfR_D hW) (by omega)
  rw [e] at a b
  have ext : ∀ p, pcR R sd p → satM (cnR R) sd (R 1).toNat (fun j => if j < 6 then p j else f j) ∧ leF f (fun j => if j < 6 then p j else f j) := fun p hp => ⟨satM_cg (wfR_6 hW) (fun j hj => (if_pos hj).symm) hp.1, fun j => by
    show f j ≤ if j < 6 then p j else f j
    split
    · rename_i h; rw [hf j h]; exact (hp.2 j h).1
    · exact Int.le_refl _⟩
  have low : T.2 = 0 → ∀ p, pcR R sd p → ∀ k, k < 6 → T.1 k ≤ p k := fun h0 p hp k k6 => by
    obtain ⟨x1, x2⟩ := ext p hp
    have z := (a h0).2.2 _ x1 x2 k
    have z : T.1 k ≤ if k < 6 then p k else f k := z
    rw [if_pos k6] at z
    exact z
  refine ⟨fun h0 hk => ⟨⟨(a h0).1, fun k k6 => ?_⟩, low h0⟩, fun h p hp => ?_⟩
  · refine ⟨by rw [← hf k k6]; exact (a h0).2.1 k, ?_⟩
    by_cases hd : (k : Int) < R 0
    · exact hk k hd
    · have hs : satM (cnR R) sd (R 1).toNat (fun j => if j < (R 0).toNat then T.1 j else f j) := satM_cg (wfR_D hW) (fun j hj => (if_pos hj).symm) (a h0).1
      have z := (a h0).2.2 _ hs (fun j => by
        show f j ≤ if j < (R 0).toNat then T.1 j else f j
        split
        · exact (a h0).2.1 j
        · exact Int.le_refl _) k
      have z : T.1 k ≤ if k < (R 0).toNat then T.1 k else f k := z
      rw [if_neg (by omega), hf k k6] at z
      have o := ((ptR_ok hW) k k6).2.1
      omega
  · by_cases h0 : T.2 = 0
    · obtain ⟨k, k1, k2⟩ := h h0
      have z := low h0 p hp k (by omega)
      have o := (hp.2 k (by omega)).2
      omega
    · obtain ⟨x1, x2⟩ := ext p hp
      exact b h0 _ x1 x2

