/-! the reference: open domains -/
def wL (B : HP) (Js : Nat → Nat → Int64) : HP := (B.1, B.2.1, Js, B.2.2.2)
theorem wL_self (B : HP) : wL B (hJ B) = B := rfl
section
variable {S : SpecT} {M : MDT} {Post : Out → HP → Prop} {G : Nat → LV → List Value → HP → Prop} {pc nx : Nat} {cst : Int32} {x : List Nat} {L : LV} {r : List Value}
theorem q_lastL (hG : Cl S M Post G) {B : HP} {I : IM} {Js : Nat → Nat → Int64} {a n : Nat} {j : Int} {v : _} (hl : lk pc M.1 = some (.lastore, nx, cst, x)) (hk : hK B a = (2, n)) (hj : 0 ≤ j ∧ j < (n : Int) ∧ j < 2147483648) (h : G nx L r (wI (wL B (up2 Js a j.toNat v)) I)) : G pc L (.long v :: .int (i3 j) :: .ref a :: r) (wI (wL B Js) I) := q_last (B := wL B Js) hG hl hk hj h
theorem q_laldv (hG : Cl S M Post G) {B : HP} {I : IM} {Js : Nat → Nat → Int64} {a n : Nat} {j : Int} {v : Int64} (hl : lk pc M.1 = some (.laload, nx, cst, x)) (hk : hK B a = (2, n)) (hj : 0 ≤ j ∧ j < (n : Int) ∧ j < 2147483648) (hv : Js a j.toNat = v) (h : G nx L (.long v :: r) (wI (wL B Js) I)) : G pc L (.int (i3 j) :: .ref a :: r) (wI (wL B Js) I) := q_lald (A := wI (wL B Js) I) hG hl hk hj (by
  show G nx L (.long (Js a j.toNat) :: r) _
  rw [hv]
  exact h)
end
/-- the domains of a level -/
def domJ (Js : Nat → Nat → Int64) (m lev : Nat) : DM := fun k => Js (m + 2) (6 * lev + k)
theorem dom_up {Js : Nat → Nat → Int64} {m lev i : Nat} {v : Int64} {k : Nat} (e : i = 6 * lev + k) : domJ (up2 Js (m + 2) i v) m lev = updD (domJ Js m lev) k v := by
  funext j
  unfold domJ updD up2
  by_cases h : j = k
  · rw [if_pos h, if_pos ⟨rfl, by omega⟩]
  · rw [if_neg h, if_neg (fun q => by omega)]
theorem up2_ne {Js : Nat → Nat → Int64} {a i b j : Nat} {v : Int64} (h : ¬ (b = a ∧ j = i)) : up2 Js a i v b j = Js b j := if_neg h
/-- only the level's longs change -/
def lfr (m lev : Nat) (Js Ks : Nat → Nat → Int64) : Prop := ∀ a j, ¬ (a = m + 2 ∧ 6 * lev ≤ j ∧ j < 6 * lev + 6) → Ks a j = Js a j
theorem lfr.refl {m lev : Nat} (Js : Nat → Nat → Int64) : lfr m lev Js Js := fun _ _ _ => rfl
theorem lfr.up {m lev k : Nat} {Js Ks : Nat → Nat → Int64} {v : Int64} {i : Nat} (h : lfr m lev Js Ks) (e : i = 6 * lev + k) (hk : k < 6) : lfr m lev Js (up2 Ks (m + 2) i v) := fun a j q => by
  rw [up2_ne (fun z => q ⟨z.1, by omega, by omega⟩)]
  exact h a j q
def subD (D E : DM) : Prop := ∀ k j, bt (D k) j = true → bt (E k) j = true
theorem subD.refl (D : DM) : subD D D := fun _ _ h => h
theorem subD.trans {D E F : DM} (h : subD D E) (h2 : subD E F) : subD D F := fun k j q => h2 k j (h k j q)
theorem sub_up {D : DM} {x : Nat} {v : Int64} (h : ∀ j, bt v j = true → bt (D x) j = true) : subD (updD D x v) D := fun k j q => by
  unfold updD at q
  split at q
  · rename_i e; rw [e]; exact h j q
  · exact q
theorem sub_and (u r : Int64) : ∀ j, bt (u &&& r) j = true → bt u j = true := fun j h => by
  rw [bt_and, Bool.and_eq_true] at h
  exact h.1
/-- all domains are sets of heights -/
def vdD (D : DM) : Prop := ∀ k, k < 6 → vd (D k)
theorem vdD_up {D : DM} (h : vdD D) {x : Nat} {v : Int64} (hv : vd v) : vdD (updD D x v) := fun k hk => by
  unfold updD
  split
  · exact hv
  · exact h k hk

