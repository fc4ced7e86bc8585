/-! rows: the data as the reference lays it, and what the changes make of it -/
abbrev RW : Type := Nat → Int
def bd2 (j : Nat) : Prop := 5 ≤ j ∧ j < 29 ∧ 2 ≤ (j - 5) % 4
def WfR (q : Int) (R : RW) : Prop := (0 ≤ R 0 ∧ R 0 ≤ 6) ∧ (0 ≤ R 1 ∧ R 1 ≤ 10) ∧ (0 ≤ R 2 ∧ R 2 ≤ q) ∧ (0 ≤ R 3 ∧ R 3 ≤ q) ∧ (0 ≤ R 4 ∧ R 4 ≤ q) ∧
  (∀ k : Nat, k < 6 → (0 ≤ R (5 + 4 * k) ∧ R (5 + 4 * k) ≤ R (5 + 4 * k + 2) ∧ R (5 + 4 * k + 2) ≤ R (5 + 4 * k + 3) ∧ R (5 + 4 * k + 3) ≤ R (5 + 4 * k + 1) ∧ R (5 + 4 * k + 1) ≤ 40) ∧ (R 0 ≤ (k : Int) → R (5 + 4 * k + 1) = 0)) ∧
  (∀ k : Nat, (k : Int) < R 1 → (0 ≤ R (29 + 5 * k) ∧ R (29 + 5 * k) < R 2) ∧ (R (29 + 5 * k + 1) = 60 ∨ R (29 + 5 * k + 1) = 61 ∨ R (29 + 5 * k + 1) = 35) ∧ (0 ≤ R (29 + 5 * k + 2) ∧ R (29 + 5 * k + 2) < R 0) ∧ (0 ≤ R (29 + 5 * k + 3) ∧ R (29 + 5 * k + 3) < R 0) ∧ R (29 + 5 * k + 2) ≠ R (29 + 5 * k + 3) ∧ (0 ≤ R (29 + 5 * k + 4) ∧ R (29 + 5 * k + 4) ≤ 20) ∧ (R (29 + 5 * k + 1) = 35 → 1 ≤ R (29 + 5 * k + 4)))
theorem WfR.up {q q' : Int} {R : RW} (h : WfR q R) (hq : q ≤ q') : WfR q' R := by
  obtain ⟨a, b, c, d, e, f, g⟩ := h
  exact ⟨a, b, ⟨c.1, by omega⟩, ⟨d.1, by omega⟩, ⟨e.1, by omega⟩, f, g⟩
def RepC (I : IM) (b : Nat) (R : RW) : Prop := I b 0 = R 0 ∧ I (b + 7) 0 = R 1 ∧ I (b + 7) 1 = R 2 ∧ I b 4 = R 3 ∧ I b 5 = R 4 ∧
  (∀ k, k < 6 → I (b + 2) k = R (5 + 4 * k) ∧ I (b + 3) k = R (5 + 4 * k + 1) ∧ I (b + 5) k = R (5 + 4 * k + 2) ∧ I (b + 6) k = R (5 + 4 * k + 3)) ∧
  (∀ k : Nat, (k : Int) < R 1 → I (b + 8) k = R (29 + 5 * k) ∧ I (b + 9) k = R (29 + 5 * k + 1) ∧ I (b + 10) k = R (29 + 5 * k + 2) ∧ I (b + 11) k = R (29 + 5 * k + 3) ∧ I (b + 12) k = R (29 + 5 * k + 4)) ∧
  (∀ k, k < 10 → 0 ≤ I (b + 9) k ∧ I (b + 9) k < 65536)
def RepM (I : IM) (m r : Nat) (R : RW) : Prop := ∀ j, j < 79 → I (m + 1) (79 * r + j) = R j
def cnR (R : RW) : CN := fun p => (R (29 + 5 * p + 1), (R (29 + 5 * p + 2)).toNat, (R (29 + 5 * p + 3)).toNat, R (29 + 5 * p + 4))
def ptR (R : RW) : PT := (fun k => R (5 + 4 * k + 2), fun k => R (5 + 4 * k + 3), 0)
def openR (R : RW) : RW := fun j => if 5 ≤ j ∧ j < 29 ∧ 2 ≤ (j - 5) % 4 then R (j - 2) else R j
def unl (R R' : RW) : Int := sm (fun k => df (R (5 + 4 * k + 2)) (R' (5 + 4 * k + 2)) + df (R (5 + 4 * k + 3)) (R' (5 + 4 * k + 3))) (R 0).toNat
def rngP (lo hi : Int) : Prop := 0 ≤ lo ∧ lo ≤ hi ∧ hi ≤ 40
def addR (R : RW) (lo hi : Int) : RW := fun j => if j = 0 then R 0 + 1 else if j = 5 + 4 * (R 0).toNat then lo else if j = 5 + 4 * (R 0).toNat + 1 then hi else if j = 5 + 4 * (R 0).toNat + 2 then lo else if j = 5 + 4 * (R 0).toNat + 3 then hi else R j
def frmR (R : RW) (d : Nat) (lo hi : Int) : RW := openR (fun j => if j = 5 + 4 * d then lo else if j = 5 + 4 * d + 1 then hi else R j)
def narR (R : RW) (d : Nat) (lo hi : Int) : RW := fun j => if j = 5 + 4 * d + 2 then lo else if j = 5 + 4 * d + 3 then hi else R j
def bndR (R : RW) (kd f s g : Int) : RW := fun j => if j = 1 then R 1 + 1 else if j = 2 then R 2 + 1 else if j = 29 + 5 * (R 1).toNat then R 2 else if j = 29 + 5 * (R 1).toNat + 1 then kd else if j = 29 + 5 * (R 1).toNat + 2 then f else if j = 29 + 5 * (R 1).toNat + 3 then s else if j = 29 + 5 * (R 1).toNat + 4 then g else R j
def drpR (R : RW) (a : Nat) : RW := openR (fun j => if j = 1 then R 1 - 1 else if 29 + 5 * a ≤ j ∧ j < 29 + 5 * ((R 1).toNat - 1) then R (j + 5) else if 29 + 5 * ((R 1).toNat - 1) ≤ j ∧ j < 29 + 5 * (R 1).toNat then 0 else R j)
def setB (R : RW) (s : PT) (dp : Int) : RW := fun j => if 5 ≤ j ∧ j < 29 ∧ (j - 5) % 4 = 2 then s.1 ((j - 5) / 4) else if 5 ≤ j ∧ j < 29 ∧ (j - 5) % 4 = 3 then s.2.1 ((j - 5) / 4) else if j = 3 then R 3 + dp else if j = 4 then R 4 + s.2.2 else R j
/-! what is kept -/
theorem openR_k (R : RW) (k : Nat) (hk : k < 6) : openR R (5 + 4 * k) = R (5 + 4 * k) ∧ openR R (5 + 4 * k + 1) = R (5 + 4 * k + 1) ∧ openR R (5 + 4 * k + 2) = R (5 + 4 * k) ∧ openR R (5 + 4 * k + 3) = R (5 + 4 * k + 1) := by
  unfold openR
  refine ⟨if_neg (by omega), if_neg (by omega), ?_, ?_⟩
  · rw [if_pos (by omega)]; congr 1
  · rw [if_pos (by omega)]; congr 1
theorem openR_o (R : RW) {j : Nat} (h : j < 5 ∨ 29 ≤ j) : openR R j = R j := if_neg (by omega)
theorem openR_wf {q : Int} {R : RW} (h1 : 0 ≤ R 0 ∧ R 0 ≤ 6) (h2 : 0 ≤ R 1 ∧ R 1 ≤ 10) (h3 : (0 ≤ R 2 ∧ R 2 ≤ q) ∧ (0 ≤ R 3 ∧ R 3 ≤ q) ∧ (0 ≤ R 4 ∧ R 4 ≤ q))
    (hd : ∀ k : Nat, k < 6 → (0 ≤ R (5 + 4 * k) ∧ R (5 + 4 * k) ≤ R (5 + 4 * k + 1) ∧ R (5 + 4 * k + 1) ≤ 40) ∧ (R 0 ≤ (k : Int) → R (5 + 4 * k + 1) = 0))
    (hc : ∀ k : Nat, (k : Int) < R 1 → (0 ≤ R (29 + 5 * k) ∧ R (29 + 5 * k) < R 2) ∧ (R (29 + 5 * k + 1) = 60 ∨ R (29 + 5 * k + 1) = 61 ∨ R (29 + 5 * k + 1) = 35) ∧ (0 ≤ R (29 + 5 * k + 2) ∧ R (29 + 5 * k + 2) < R 0) ∧ (0 ≤ R (29 + 5 * k + 3) ∧ R (29 + 5 * k + 3) < R 0) ∧ R (29 + 5 * k + 2) ≠ R (29 + 5 * k + 3) ∧ (0 ≤ R (29 + 5 * k + 4) ∧ R (29 + 5 * k + 4) ≤ 20) ∧ (R (29 + 5 * k + 1) = 35 → 1 ≤ R (29 + 5 * k + 4))) : WfR q (openR R) := by
  unfold WfR
  rw [openR_o R (j := 0) (by omega), openR_o R (j := 1) (by omega), openR_o R (j := 2) (by omega), openR_o R (j := 3) (by omega), openR_o R (j := 4) (by omega)]
  refine ⟨h1, h2, h3.1, h3.2.1, h3.2.2, fun k hk => ?_, fun k hk => ?_⟩
  · obtain ⟨e1, e2, e3, e4⟩ := openR_k R k hk
    rw [e1, e2, e3, e4]
    obtain ⟨a, b⟩ := hd k hk
    exact ⟨by omega, b⟩
  · rw [openR_o R (j := 29 + 5 * k) (by omega), openR_o R (j := 29 + 5 * k + 1) (by omega), openR_o R (j := 29 + 5 * k + 2) (by omega), openR_o R (j := 29 + 5 * k + 3) (by omega), openR_o R (j := 29 + 5 * k + 4) (by omega)]
    exact hc k hk
theorem openR_W {q : Int} {R : RW} (h : WfR q R) : WfR q (openR R) := by
  obtain ⟨a, b, c, d, e, f, g⟩ := h
  exact openR_wf a b ⟨c, d, e⟩ (fun k hk => by have := f k hk; exact ⟨by omega, this.2⟩) g
theorem frmR_W {q : Int} {R : RW} (h : WfR q R) {d : Nat} {lo hi : Int} (hd : (d : Int) < R 0) (hr : rngP lo hi) : WfR q (frmR R d lo hi) := by
  obtain ⟨a, b, c, d2, e, f, g⟩ := h
  obtain ⟨r1, r2, r3⟩ := hr
  unfold frmR
  refine openR_wf ?_ ?_ ?_ (fun k hk => ?_) (fun k hk => ?_)
  · show 0 ≤ (if 0 = 5 + 4 * d then lo else if 0 = 5 + 4 * d + 1 then hi else R 0) ∧ _
    rw [if_neg (by omega), if_neg (by omega)]
    exact a
  · show 0 ≤ (if 1 = 5 + 4 * d then lo else if 1 = 5 + 4 * d + 1 then hi else R 1) ∧ _
    rw [if_neg (by omega), if_neg (by omega)]
    exact b
  · rw [if_neg (by omega), if_neg (by omega), if_neg (by omega), if_neg (by omega), if_neg (by omega), if_neg (by omega)]
    exact ⟨c, d2, e⟩
  · have f := f k hk
    rw [if_neg (show ¬ 0 = 5 + 4 * d by omega), if_neg (show ¬ 0 = 5 + 4 * d + 1 by omega), if_neg (show ¬ 5 + 4 * k + 1 = 5 + 4 * d by omega), if_neg (show ¬ 5 + 4 * k = 5 + 4 * d + 1 by omega)]
    by_cases e1 : k = d
    · subst e1
      rw [if_pos rfl, if_pos rfl]
      exact ⟨by omega, fun z => by omega⟩
    · rw [if_neg (show ¬ 5 + 4 * k = 5 + 4 * d by omega), if_neg (show ¬ 5 + 4 * k + 1 = 5 + 4 * d + 1 by omega)]
      exact ⟨by omega, f.2⟩
  · have hk : (k : Int) < R 1 := by
      have hk2 : (k : Int) < (if 1 = 5 + 4 * d then lo else if 1 = 5 + 4 * d + 1 then hi else R 1) := hk
      rw [if_neg (by omega), if_neg (by omega)] at hk2
      exact hk2
    have g := g k hk
    have e0 : ∀ w, w < 5 → (if 29 + 5 * k + w = 5 + 4 * d then lo else if 29 + 5 * k + w = 5 + 4 * d + 1 then hi else R (29 + 5 * k + w)) = R (29 + 5 * k + w) := fun w hw => by rw [if_neg (by omega), if_neg (by omega)]
    rw [if_neg (show ¬ 0 = 5 + 4 * d by omega), if_neg (show ¬ 0 = 5 + 4 * d + 1 by omega), if_neg (show ¬ 2 = 5 + 4 * d by omega), if_neg (show ¬ 2 = 5 + 4 * d + 1 by omega), e0 1 (by omega), e0 2 (by omega), e0 3 (by omega), e0 4 (by omega), if_neg (show ¬ 29 + 5 * k = 5 + 4 * d by omega), if_neg (show ¬ 29 + 5 * k = 5 + 4 * d + 1 by omega)]
    exact g
theorem addR_W {q : Int} {R : RW} (h : WfR q R) {lo hi : Int} (h6 : R 0 < 6) (hr : rngP lo hi) : WfR q (addR R lo hi) := by
  obtain ⟨a, b, c, d2, e, f, g⟩ := h
  obtain ⟨r1, r2, r3⟩ := hr
  have e0 : addR R lo hi 0 = R 0 + 1 := if_pos rfl
  have eo : ∀ j, (0 < j ∧ j < 5 ∨ 29 ≤ j) → addR R lo hi j = R j := fun j hj => by
    unfold addR
    rw [if_neg (by omega), if_neg (by omega), if_neg (by omega), if_neg (by omega), if_neg (by omega)]
  unfold WfR
  rw [e0, eo 1 (by omega), eo 2 (by omega), eo 3 (by omega), eo 4 (by omega)]
  refine ⟨by omega, b, c, d2, e, fun k hk => ?_, fun k hk => ?_⟩
  · have f := f k hk
    unfold addR
    rw [if_neg (show ¬ 5 + 4 * k = 0 by omega), if_neg (show ¬ 5 + 4 * k + 1 = 0 by omega), if_neg (show ¬ 5 + 4 * k + 2 = 0 by omega), if_neg (show ¬ 5 + 4 * k + 3 = 0 by omega)]
    by_cases e1 : k = (R 0).toNat
    · subst e1
      rw [if_pos rfl, if_neg (by omega), if_pos rfl, if_neg (by omega), if_neg (by omega), if_pos rfl, if_neg (by omega), if_neg (by omega), if_neg (by omega), if_pos rfl]
      exact ⟨by omega, fun z => by omega⟩
    · simp only [show ¬ 5 + 4 * k = 5 + 4 * (R 0).toNat by omega, show ¬ 5 + 4 * k = 5 + 4 * (R 0).toNat + 1 by omega, show ¬ 5 + 4 * k = 5 + 4 * (R 0).toNat + 2 by omega, show ¬ 5 + 4 * k = 5 + 4 * (R 0).toNat + 3 by omega, show ¬ 5 + 4 * k + 1 = 5 + 4 * (R 0).toNat by omega, show ¬ 5 + 4 * k + 1 = 5 + 4 * (R 0).toNat + 1 by omega, show ¬ 5 + 4 * k + 1 = 5 + 4 * (R 0).toNat + 2 by omega, show ¬ 5 + 4 * k + 1 = 5 + 4 * (R 0).toNat + 3 by omega, show ¬ 5 + 4 * k + 2 = 5 + 4 * (R 0).toNat by omega, show ¬ 5 + 4 * k + 2 = 5 + 4 * (R 0).toNat + 1 by omega, show ¬ 5 + 4 * k + 2 = 5 + 4 * (R 0).toNat + 2 by omega, show ¬ 5 + 4 * k + 2 = 5 + 4 * (R 0).toNat + 3 by omega, show ¬ 5 + 4 * k + 3 = 5 + 4 * (R 0).toNat by omega, show ¬ 5 + 4 * k + 3 = 5 + 4 * (R 0).toNat + 1 by omega, show ¬ 5 + 4 * k + 3 = 5 + 4 * (R 0).toNat + 2 by omega, show ¬ 5 + 4 * k + 3 = 5 + 4 * (R 0).toNat + 3 by omega, if_false]
      exact ⟨f.1, fun z => f.2 (by omega)⟩
  · rw [eo _ (by omega), eo _ (by omega), eo _ (by omega), eo _ (by omega), eo _ (by omega)]
    obtain ⟨g1, g2, g3, g4, g5, g6, g7⟩ := g k hk
    exact ⟨g1, g2, ⟨g3.1, by omega⟩, ⟨g4.1, by omega⟩, g5, g6, g7⟩
theorem narR_W {q : Int} {R : RW} (h : WfR q R) {d : Nat} {lo hi : Int} (hd : (d : Int) < R 0) (h1 : R (5 + 4 * d + 2) ≤ lo ∧ lo ≤ hi ∧ hi ≤ R (5 + 4 * d + 3)) : WfR q (narR R d lo hi) := by
  obtain ⟨a, b, c, d2, e, f, g⟩ := h
  have eo : ∀ j, (j < 5 ∨ 29 ≤ j) → narR R d lo hi j = R j := fun j hj => by
    unfold narR
    rw [if_neg (by omega), if_neg (by omega)]
  unfold WfR
  rw [eo 0 (by omega), eo 1 (by omega), eo 2 (by omega), eo 3 (by omega), eo 4 (by omega)]
  refine ⟨a, b, c, d2, e, fun k hk => ?_, fun k hk => ?_⟩
  · have f := f k hk
    unfold narR
    rw [if_neg (show ¬ 5 + 4 * k = 5 + 4 * d + 2 by omega), if_neg (show ¬ 5 + 4 * k = 5 + 4 * d + 3 by omega), if_neg (show ¬ 5 + 4 * k + 1 = 5 + 4 * d + 2 by omega), if_neg (show ¬ 5 + 4 * k + 1 = 5 + 4 * d + 3 by omega), if_neg (show ¬ 5 + 4 * k + 2 = 5 + 4 * d + 3 by omega), if_neg (show ¬ 5 + 4 * k + 3 = 5 + 4 * d + 2 by omega)]
    by_cases e1 : k = d
    · subst e1
      rw [if_pos rfl, if_pos rfl]
      exact ⟨by omega, f.2⟩
    · rw [if_neg (by omega), if_neg (by omega)]
      exact f
  · rw [eo _ (by omega), eo _ (by omega), eo _ (by omega), eo _ (by omega), eo _ (by omega)]
    exact g k hk
theorem bndR_W {q : Int} {R : RW} (h : WfR q R) {kd f s gp : Int} (h10 : R 1 < 10) (hk : kd = 60 ∨ kd = 61 ∨ kd = 35) (hf : 0 ≤ f ∧ f < R 0) (hs : 0 ≤ s ∧ s < R 0) (hfs : f ≠ s) (hg : 0 ≤ gp ∧ gp ≤ 20) (hg1 : kd = 35 → 1 ≤ gp) : WfR (q + 1) (bndR R kd f s gp) := by
  obtain ⟨a, b, c, d2, e, ff, g⟩ := h
  have e1 : bndR R kd f s gp 1 = R 1 + 1 := rfl
  have e2 : bndR R kd f s gp 2 = R 2 + 1 := rfl
  have eo : ∀ j, (j = 0 ∨ 3 ≤ j ∧ j < 29 ∨ 29 ≤ j ∧ j < 29 + 5 * (R 1).toNat) → bndR R kd f s gp j = R j := fun j hj => by
    unfold bndR
    rw [if_neg (by omega), if_neg (by omega), if_neg (by omega), if_neg (by omega), if_neg (by omega), if_neg (by omega), if_neg (by omega)]
  unfold WfR
  rw [eo 0 (by omega), e1, e2, eo 3 (by omega), eo 4 (by omega)]
  refine ⟨a, by omega, by omega, by omega, by omega, fun k hk => ?_, fun k hk2 => ?_⟩
  · rw [eo _ (by omega), eo _ (by omega), eo _ (by omega), eo _ (by omega)]
    exact ff k hk
  · by_cases hh : (k : Int) < R 1
    · rw [eo _ (by omega), eo _ (by omega), eo _ (by omega), eo _ (by omega), eo _ (by omega)]
      obtain ⟨g1, g2⟩ := g k hh
      exact ⟨by omega, g2⟩
    · have ek : k = (R 1).toNat := by omega
      subst ek
      unfold bndR
      rw [if_neg (by omega), if_neg (by omega), if_pos rfl]
      rw [if_neg (show ¬ 29 + 5 * (R 1).toNat + 1 = 1 by omega), if_neg (show ¬ 29 + 5 * (R 1).toNat + 1 = 2 by omega), if_neg (show ¬ 29 + 5 * (R 1).toNat + 1 = 29 + 5 * (R 1).toNat by omega), if_pos rfl]
      rw [if_neg (show ¬ 29 + 5 * (R 1).toNat + 2 = 1 by omega), if_neg (show ¬ 29 + 5 * (R 1).toNat + 2 = 2 by omega), if_neg (show ¬ 29 + 5 * (R 1).toNat + 2 = 29 + 5 * (R 1).toNat by omega), if_neg (show ¬ 29 + 5 * (R 1).toNat + 2 = 29 + 5 * (R 1).toNat + 1 by omega), if_pos rfl]
      rw [if_neg (show ¬ 29 + 5 * (R 1).toNat + 3 = 1 by omega), if_neg (show ¬ 29 + 5 * (R 1).toNat + 3 = 2 by omega), if_neg (show ¬ 29 + 5 * (R 1).toNat + 3 = 29 + 5 * (R 1).toNat by omega), if_neg (show ¬ 29 + 5 * (R 1).toNat + 3 = 29 + 5 * (R 1).toNat + 1 by omega), if_neg (show ¬ 29 + 5 * (R 1).toNat + 3 = 29 + 5 * (R 1).toNat + 2 by omega), if_pos rfl]
      rw [if_neg (show ¬ 29 + 5 * (R 1).toNat + 4 = 1 by omega), if_neg (show ¬ 29 + 5 * (R 1).toNat + 4 = 2 by omega), if_neg (show ¬ 29 + 5 * (R 1).toNat + 4 = 29 + 5 * (R 1).toNat by omega), if_neg (show ¬ 29 + 5 * (R 1).toNat + 4 = 29 + 5 * (R 1).toNat + 1 by omega), if_neg (show ¬ 29 + 5 * (R 1).toNat + 4 = 29 + 5 * (R 1).toNat + 2 by omega), if_neg (show ¬ 29 + 5 * (R 1).toNat + 4 = 29 + 5 * (R 1).toNat + 3 by omega), if_pos rfl]
      exact ⟨by omega, hk, hf, hs, hfs, hg, hg1⟩
theorem drpR_W {q : Int} {R : RW} (h : WfR q R) {p : Nat} (hp : (p : Int) < R 1) : WfR q (drpR R p) := by
  obtain ⟨a, b, c, d2, e, ff, g⟩ := h
  unfold drpR
  have eo : ∀ j, (j = 0 ∨ 2 ≤ j ∧ j < 29 + 5 * p) → (if j = 1 then R 1 - 1 else if 29 + 5 * p ≤ j ∧ j < 29 + 5 * ((R 1).toNat - 1) then R (j + 5) else if 29 + 5 * ((R 1).toNat - 1) ≤ j ∧ j < 29 + 5 * (R 1).toNat then 0 else R j) = R j := fun j hj => by
    rw [if_neg (by omega), if_neg (by omega), if_neg (by omega)]
  have en : ∀ j, 29 + 5 * p ≤ j → j < 29 + 5 * ((R 1).toNat - 1) → (if j = 1 then R 1 - 1 else if 29 + 5 * p ≤ j ∧ j < 29 + 5 * ((R 1).toNat - 1) then R (j + 5) else if 29 + 5 * ((R 1).toNat - 1) ≤ j ∧ j < 29 + 5 * (R 1).toNat then 0 else R j) = R (j + 5) := fun j h1 h2 => by
    rw [if_neg (by omega), if_pos ⟨h1, h2⟩]
  refine openR_wf ?_ ?_ ?_ (fun k hk => ?_) (fun k hk => ?_)
  · rw [eo 0 (by omega)]; exact a
  · rw [if_pos rfl]; omega
  · rw [eo 2 (by omega), eo 3 (by omega), eo 4 (by omega)]; exact ⟨c, d2, e⟩
  · rw [eo _ (by omega), eo _ (by omega), eo 0 (by omega)]
    have f := ff k hk
    exact ⟨by omega, f.2⟩
  · rw [if_pos rfl] at hk
    rw [eo 0 (by omega), eo 2 (by omega)]
    by_cases h2 : k < p
    · rw [eo _ (by omega), eo _ (by omega), eo _ (by omega), eo _ (by omega), eo _ (by omega)]
      exact g k (by omega)
    · rw [en _ (by omega) (by omega), en _ (by omega) (by omega), en _ (by omega) (by omega), en _ (by omega) (by omega), en _ (by omega) (by omega)]
      exact g (k + 1) (by omega)
theorem setB_k (R : RW) (s : PT) (dp : Int) (k : Nat) (hk : k < 6) : setB R s dp (5 + 4 * k) = R (5 + 4 * k) ∧ setB R s dp (5 + 4 * k + 1) = R (5 + 4 * k + 1) ∧ setB R s dp (5 + 4 * k + 2) = s.1 k ∧ setB R s dp (5 + 4 * k + 3) = s.2.1 k := by
  unfold setB
  refine ⟨?_, ?_, ?_, ?_⟩
  · rw [if_neg (by omega), if_neg (by omega), if_neg (by omega), if_neg (by omega)]
  · rw [if_neg (by omega), if_neg (by omega), if_neg (by omega), if_neg (by omega)]
  · rw [if_pos (by omega), show (5 + 4 * k + 2 - 5) / 4 = k by omega]
  · rw [if_neg (by omega), if_pos (by omega), show (5 + 4 * k + 3 - 5) / 4 = k by omega]
theorem setB_o (R : RW) (s : PT) (dp : Int) {j : Nat} (h : j < 3 ∨ 29 ≤ j) : setB R s dp j = R j := by
  unfold setB
  rw [if_neg (by omega), if_neg (by omega), if_neg (by omega), if_neg (by omega)]
theorem setB_W {q : Int} {R : RW} (h : WfR q R) {s : PT} {dp u : Int} (hs : okB s) (hn : nrw (ptR R) s) (hdp : 0 ≤ dp ∧ dp ≤ u) (hdc : s.2.2 ≤ u) : WfR (q + u) (setB R s dp) := by
  obtain ⟨a, b, c, d2, e, ff, g⟩ := h
  have hc0 : 0 ≤ s.2.2 := hn.2.1
  have e3 : setB R s dp 3 = R 3 + dp := rfl
  have e4 : setB R s dp 4 = R 4 + s.2.2 := rfl
  unfold WfR
  rw [e3, e4, setB_o _ _ _ (by omega), setB_o _ _ _ (by omega), setB_o _ _ _ (by omega)]
  refine ⟨a, b, by omega, by omega, by omega, fun k hk => ?_, fun k hk => ?_⟩
  · obtain ⟨x1, x2, x3, x4⟩ := setB_k R s dp k hk
    rw [x1, x2, x3, x4]
    have f := ff k hk
    obtain ⟨y1, y2⟩ := hn.1 k
    have y1 : R (5 + 4 * k + 2) ≤ s.1 k := y1
    have y2 : s.2.1 k ≤ R (5 + 4 * k + 3) := y2
    have z := hs k hk
    exact ⟨by omega, f.2⟩
  · rw [setB_o _ _ _ (by omega), setB_o _ _ _ (by omega), setB_o _ _ _ (by omega), setB_o _ _ _ (by omega), setB_o _ _ _ (by omega)]
    exact g k hk
theorem ptR_ok {q : Int} {R : RW} (h : WfR q R) : okB (ptR R) := fun k hk => by
  have f := (h.2.2.2.2.2.1 k hk).1
  exact ⟨by show 0 ≤ R (5 + 4 * k + 2); omega, by show R (5 + 4 * k + 2) ≤ R (5 + 4 * k + 3); omega, by show R (5 + 4 * k + 3) ≤ 40; omega⟩
