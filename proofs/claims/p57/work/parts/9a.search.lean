/-! the search for the first peace: mathematics -/
def ltL (D : Nat) (p q : Nat → Int) : Prop := ∃ d, d < D ∧ p d < q d ∧ ∀ e, e < d → p e = q e
theorem ltL.trans {D : Nat} {p q r : Nat → Int} (h : ltL D p q) (h2 : ltL D q r) : ltL D p r := by
  obtain ⟨d, d1, d2, d3⟩ := h
  obtain ⟨e, e1, e2, e3⟩ := h2
  by_cases hlt : d < e
  · exact ⟨d, d1, by rw [← e3 d hlt]; exact d2, fun k hk => (d3 k hk).trans (e3 k (by omega))⟩
  · by_cases heq : e = d
    · subst heq
      exact ⟨e, d1, by omega, fun k hk => (d3 k hk).trans (e3 k hk)⟩
    · exact ⟨e, e1, by rw [d3 e (by omega)]; exact e2, fun k hk => (d3 k (by omega)).trans (e3 k hk)⟩
theorem fst_diff {f g : Nat → Int} : ∀ d : Nat, (∀ e, e < d → f e ≤ g e) → (∀ e, e < d → f e = g e) ∨ ∃ e, e < d ∧ f e < g e ∧ ∀ j, j < e → f j = g j
  | 0, _ => Or.inl (fun e he => by omega)
  | d + 1, h => by
    rcases fst_diff d (fun e he => h e (by omega)) with q | ⟨e, e1, e2, e3⟩
    · by_cases hd : f d = g d
      · exact Or.inl (fun e he => if z : e = d then by rw [z]; exact hd else q e (by omega))
      · exact Or.inr ⟨d, by omega, by have := h d (by omega); omega, q⟩
    · exact Or.inr ⟨e, by omega, e2, e3⟩
theorem ltL_le {D : Nat} {L p b : Nat → Int} (hL : ∀ k, k < D → L k ≤ p k) (h : ltL D p b) : ltL D L b := by
  obtain ⟨d, d1, d2, d3⟩ := h
  rcases fst_diff (f := L) (g := b) d (fun e he => by have := hL e (by omega); have := d3 e he; omega) with q | ⟨e, e1, e2, e3⟩
  · exact ⟨d, d1, by have := hL d d1; omega, q⟩
  · exact ⟨e, by omega, e2, e3⟩
theorem ltL_no {D : Nat} {L p : Nat → Int} (hL : ∀ k, k < D → L k ≤ p k) : ¬ ltL D p L := fun ⟨d, d1, d2, _⟩ => by have := hL d d1; omega
theorem ltL_cg {D : Nat} {p q p' q' : Nat → Int} (h1 : ∀ k, k < D → p k = p' k) (h2 : ∀ k, k < D → q k = q' k) (h : ltL D p q) : ltL D p' q' := by
  obtain ⟨d, d1, d2, d3⟩ := h
  exact ⟨d, d1, by rw [← h1 d d1, ← h2 d d1]; exact d2, fun e he => by rw [← h1 e (by omega), ← h2 e (by omega)]; exact d3 e he⟩
def fulM (K : Int) (F S : Nat) (g : Int) (p : Nat → Int) : Prop := (K = 60 → p F + g ≤ p S) ∧ (K = 61 → p F + g = p S) ∧ (K ≠ 60 → K ≠ 61 → p F + g ≤ p S ∨ p S + g ≤ p F)
/-- a peace within bounds -/
def peS (R : RW) (s : PT) (p : Nat → Int) : Prop := inP s p ∧ ∀ k, k < (R 1).toNat → fulM (cnR R k).1 (cnR R k).2.1 (cnR R k).2.2.1 (cnR R k).2.2.2 p
def peD (R : RW) (s : PT) (sd p : Nat → Int) : Prop := peS R s p ∧ satM (cnR R) sd (R 1).toNat p
def nrP (R : RW) (p : Nat → Int) (k : Nat) : Prop := (cnR R k).1 = 35 ∧ p (cnR R k).2.1 - p (cnR R k).2.2.1 < (cnR R k).2.2.2 ∧ p (cnR R k).2.2.1 - p (cnR R k).2.1 < (cnR R k).2.2.2
theorem peS_cg {R : RW} {q : Int} (hW : WfR q R) {s : PT} {p p' : Nat → Int} (e : ∀ k, k < 6 → p k = p' k) (h : peS R s p) : peS R s p' := by
  refine ⟨fun k hk => by rw [← e k hk]; exact h.1 k hk, fun k hk => ?_⟩
  obtain ⟨f, g⟩ := wfR_6 hW k hk
  have a := h.2 k hk
  unfold fulM at a ⊢
  rw [← e _ f, ← e _ g]
  exact a
theorem peD_cg {R : RW} {q : Int} (hW : WfR q R) {s : PT} {sd p p' : Nat → Int} (e : ∀ k, k < 6 → p k = p' k) (h : peD R s sd p) : peD R s sd p' := ⟨peS_cg hW e h.1, satM_cg (wfR_6 hW) e h.2⟩
theorem peD_pc {R : RW} {s : PT} {sd p : Nat → Int} (h : peD R s sd p) : pcS R s sd p := ⟨h.2, h.1.1⟩
theorem pe_done {R : RW} {q : Int} (hW : WfR q R) {s : PT} {sd p : Nat → Int} (h : pcS R s sd p) (hn : ∀ k, k < (R 1).toNat → ¬ nrP R p k) : peD R s sd p := by
  refine ⟨⟨h.2, fun k hk => ?_⟩, h.1⟩
  have a := h.1 k hk
  have b := hn k hk
  have hK := (wfR_k hW k hk).2
  unfold edg at a
  unfold nrP at b
  refine ⟨a.1, a.2.1, fun k1 k2 => ?_⟩
  rcases hK with e | e | e
  · exact absurd e k1
  · exact absurd e k2
  · by_cases h1 : p (cnR R k).2.1 - p (cnR R k).2.2.1 < (cnR R k).2.2.2
    · by_cases h2 : p (cnR R k).2.2.1 - p (cnR R k).2.1 < (cnR R k).2.2.2
      · exact absurd ⟨e, h1, h2⟩ b
      · exact Or.inl (by omega)
    · exact Or.inr (by omega)
theorem nr_open {R : RW} {s : PT} {sd p : Nat → Int} {k : Nat} (hk : k < (R 1).toNat) (h : pcS R s sd p) (hn : nrP R p k) (hs : 0 ≤ sd k ∧ sd k ≤ 2) : sd k = 0 := by
  obtain ⟨a1, a2, a3⟩ := h.1 k hk
  obtain ⟨b1, b2, b3⟩ := hn
  obtain ⟨c1, c2⟩ := a3 (by omega) (by omega)
  by_cases h1 : sd k = 1
  · have := c1 h1; omega
  · by_cases h2 : sd k = 2
    · have := c2 h2; omega
    · omega
theorem pe_split {R : RW} {s : PT} {sd : Nat → Int} {k : Nat} (hk : k < (R 1).toNat) (h35 : (cnR R k).1 = 35) (h0 : sd k = 0) (p : Nat → Int) : peD R s sd p ↔ peD R s (upf sd k 1) p ∨ peD R s (upf sd k 2) p := by
  have back : ∀ v, peD R s (upf sd k v) p → peD R s sd p := fun v h => ⟨h.1, fun j hj => by
    have a := h.2 j hj
    by_cases e : j = k
    · subst e
      unfold edg
      rw [h0]
      exact ⟨fun z => by omega, fun z => by omega, fun _ _ => ⟨fun z => by omega, fun z => by omega⟩⟩
    · rw [upf_ne _ _ e] at a
      exact a⟩
  have forth : ∀ v, (v = 1 → p (cnR R k).2.1 + (cnR R k).2.2.2 ≤ p (cnR R k).2.2.1) → (v = 2 → p (cnR R k).2.2.1 + (cnR R k).2.2.2 ≤ p (cnR R k).2.1) → peD R s sd p → peD R s (upf sd k v) p := fun v v1 v2 h => ⟨h.1, fun j hj => by
    by_cases e : j = k
    · subst e
      rw [upf_same]
      exact ⟨fun z => by omega, fun z => by omega, fun _ _ => ⟨v1, v2⟩⟩
    · rw [upf_ne _ _ e]
      exact h.2 j hj⟩
  refine ⟨fun h => ?_, fun h => h.elim (back 1) (back 2)⟩
  rcases (h.1.2 k hk).2.2 (by omega) (by omega) with z | z
  · exact Or.inl (forth 1 (fun _ => z) (fun q => by omega) h)
  · exact Or.inr (forth 2 (fun q => by omega) (fun _ => z) h)
/-- a step of the search: found, best, before and behind -/
def srch (D : Nat) (P : (Nat → Int) → Prop) (z : Int) (b : Nat → Int) (z' : Int) (b' : Nat → Int) : Prop := (z' = 0 ∨ z' = 1) ∧ (z' = 0 → z = 0 ∧ ∀ p, ¬ P p) ∧ (z' = 1 → ((z = 1 ∧ ∀ k, k < 6 → b' k = b k) ∨ (P b' ∧ (z = 1 → ltL D b' b))) ∧ ∀ p, P p → ¬ ltL D p b')
theorem srch.comp {D : Nat} (hD : D ≤ 6) {P Q P' : (Nat → Int) → Prop} (hP : ∀ p p', (∀ k, k < 6 → p k = p' k) → P p → P p') (hPQ : ∀ p, P' p ↔ P p ∨ Q p) {z1 z2 z3 : Int} {b1 b2 b3 : Nat → Int} (h : srch D P z1 b1 z2 b2) (h2 : srch D Q z2 b2 z3 b3) : srch D P' z1 b1 z3 b3 := by
  obtain ⟨x1, x2, x3⟩ := h
  obtain ⟨y1, y2, y3⟩ := h2
  refine ⟨y1, fun e => ?_, fun e => ?_⟩
  · obtain ⟨u1, u2⟩ := y2 e
    obtain ⟨v1, v2⟩ := x2 u1
    exact ⟨v1, fun p hp => ((hPQ p).mp hp).elim (v2 p) (u2 p)⟩
  · obtain ⟨u1, u2⟩ := y3 e
    have hmin : ∀ p, P p → ¬ ltL D p b3 := fun p hp hl => by
      rcases x1 with e2 | e2
      · exact (x2 e2).2 p hp
      · obtain ⟨v1, v2⟩ := x3 e2
        rcases u1 with ⟨-, u1⟩ | ⟨-, u1⟩
        · exact v2 p hp (ltL_cg (fun _ _ => rfl) (fun k hk => u1 k (by omega)) hl)
        · exact v2 p hp (hl.trans (u1 e2))
    refine ⟨?_, fun p hp => ((hPQ p).mp hp).elim (hmin p) (u2 p)⟩
    rcases u1 with ⟨a1, a2⟩ | ⟨a1, a2⟩
    · obtain ⟨v1, v2⟩ := x3 a1
      rcases v1 with ⟨c1, c2⟩ | ⟨c1, c2⟩
      · exact Or.inl ⟨c1, fun k hk => (a2 k hk).trans (c2 k hk)⟩
      · exact Or.inr ⟨(hPQ _).mpr (Or.inl (hP _ _ (fun k hk => (a2 k hk).symm) c1)), fun q => ltL_cg (fun k hk => (a2 k (by omega)).symm) (fun _ _ => rfl) (c2 q)⟩
    · refine Or.inr ⟨(hPQ _).mpr (Or.inr a1), fun q => ?_⟩
      rcases x1 with e2 | e2
      · have := (x2 e2).1; omega
      · obtain ⟨v1, v2⟩ := x3 e2
        have l := a2 e2
        rcases v1 with ⟨c1, c2⟩ | ⟨c1, c2⟩
        · exact ltL_cg (fun _ _ => rfl) (fun k hk => c2 k (by omega)) l
        · exact l.trans (c2 q)
theorem srch_none {D : Nat} {P : (Nat → Int) → Prop} {z : Int} {b : Nat → Int} (hz : z = 0 ∨ z = 1) (h : ∀ p, ¬ P p) : srch D P z b z b := ⟨hz, fun e => ⟨e, h⟩, fun e => ⟨Or.inl ⟨e, fun _ _ => rfl⟩, fun p hp => absurd hp (h p)⟩⟩
theorem srch_worse {D : Nat} {P : (Nat → Int) → Prop} {z : Int} {b : Nat → Int} (hz : z = 1) (h : ∀ p, P p → ¬ ltL D p b) : srch D P z b z b := ⟨Or.inr hz, fun e => by omega, fun e => ⟨Or.inl ⟨e, fun _ _ => rfl⟩, h⟩⟩
def cz (sd : Nat → Int) : Int := sm (fun k => if sd k = 0 then 0 else 1) 10
theorem cz_up {sd : Nat → Int} {x : Nat} {v : Int} (hx : x < 10) (h0 : sd x = 0) (hv : v ≠ 0) : cz (upf sd x v) = cz sd + 1 := by
  have e : (fun k => if upf sd x v k = 0 then (0 : Int) else 1) = upf (fun k => if sd k = 0 then 0 else 1) x 1 := by
    funext k
    unfold upf
    by_cases hk : k = x
    · rw [if_pos hk, if_pos hk, if_neg hv]
    · rw [if_neg hk, if_neg hk]
  unfold cz
  rw [e, sm_up, if_pos hx, if_pos h0]
  omega
theorem cz_bd (sd : Nat → Int) : 0 ≤ cz sd ∧ cz sd ≤ 10 := by
  have a := sm_bd (f := fun k => if sd k = 0 then (0 : Int) else 1) (a := 0) (b := 1) 10 (fun k _ => by
    show 0 ≤ (if sd k = 0 then (0 : Int) else 1) ∧ (if sd k = 0 then (0 : Int) else 1) ≤ 1
    split <;> omega)
  unfold cz
  omega
theorem upf_back {sd : Nat → Int} {x : Nat} {u v : Int} (h0 : sd x = 0) : upf (upf (upf sd x u) x v) x 0 = sd := by
  funext k
  unfold upf
  by_cases hk : k = x
  · rw [if_pos hk, hk, h0]
  · rw [if_neg hk, if_neg hk, if_neg hk]
