/-! domains: narrowing by pairs -/
abbrev DM : Type := Nat → Int64
def updD (D : DM) (k : Nat) (v : Int64) : DM := fun j => if j = k then v else D j
theorem updD_same (D : DM) (k : Nat) (v : Int64) : updD D k v k = v := if_pos rfl
theorem updD_ne (D : DM) {k j : Nat} (v : Int64) (h : j ≠ k) : updD D k v j = D j := if_neg h
/-- heights out of the domains that keep all constraints -/
def solD (c : CN) (n d : Nat) (D : DM) (p : Nat → Nat) : Prop := (∀ k, k < d → bt (D k) (p k) = true) ∧ ∀ k, k < n → okE (c k).1 (c k).2.2.2 (p (c k).2.1) (p (c k).2.2.1)
def arcD (K : Int) (F S : Nat) (g : Int) (D : DM) : Prop := (∀ k, bt (D S) k = true → ∃ j : Nat, bt (D F) j = true ∧ okE K g (j : Int) (k : Int)) ∧ (∀ j, bt (D F) j = true → ∃ k : Nat, bt (D S) k = true ∧ okE K g (j : Int) (k : Int)) ∧ D F ≠ 0 ∧ D S ≠ 0
theorem gw_f {K g : Int} {v r : Int64} (h : gwR K g 1 v r) (k : Nat) : bt r k = true ↔ k ≤ 40 ∧ ∃ j : Nat, bt v j = true ∧ okE K g (j : Int) (k : Int) := by
  have a := h.2 k
  unfold rlE at a
  simpa using a
theorem gw_b {K g : Int} {v r : Int64} (h : gwR K g 0 v r) (k : Nat) : bt r k = true ↔ k ≤ 40 ∧ ∃ j : Nat, bt v j = true ∧ okE K g (k : Int) (j : Int) := by
  have a := h.2 k
  unfold rlE at a
  simpa using a
theorem vd_le {v : Int64} (h : vd v) {k : Nat} (hk : bt v k = true) : k ≤ 40 := by
  by_cases e : 40 < k
  · rw [h k e] at hk; exact absurd hk (by decide)
  · omega
theorem sol_step {c : CN} {n d i : Nat} {D : DM} {r1 r2 : Int64} (hi : i < n) (hF : (c i).2.1 < d) (hS : (c i).2.2.1 < d) (hne : (c i).2.1 ≠ (c i).2.2.1) (hv : ∀ k, k < d → vd (D k)) (g1 : gwR (c i).1 (c i).2.2.2 1 (D (c i).2.1) r1) (g2 : gwR (c i).1 (c i).2.2.2 0 (D (c i).2.2.1 &&& r1) r2) {p : Nat → Nat} (hp : solD c n d D p) : solD c n d (updD (updD D (c i).2.2.1 (D (c i).2.2.1 &&& r1)) (c i).2.1 (D (c i).2.1 &&& r2)) p := by
  have bF := hp.1 _ hF
  have bS := hp.1 _ hS
  have e := hp.2 i hi
  have q1 : bt (D (c i).2.2.1 &&& r1) (p (c i).2.2.1) = true := by
    rw [bt_and, bS, (gw_f g1 _).mpr ⟨vd_le (hv _ hS) bS, _, bF, e⟩]
    rfl
  have q2 : bt (D (c i).2.1 &&& r2) (p (c i).2.1) = true := by
    rw [bt_and, bF, (gw_b g2 _).mpr ⟨vd_le (hv _ hF) bF, _, q1, e⟩]
    rfl
  refine ⟨fun k hk => ?_, hp.2⟩
  by_cases h1 : k = (c i).2.1
  · rw [h1, updD_same]; exact q2
  · rw [updD_ne _ _ h1]
    by_cases h2 : k = (c i).2.2.1
    · rw [h2, updD_same]; exact q1
    · rw [updD_ne _ _ h2]; exact hp.1 k hk
theorem sol_back {c : CN} {n d i : Nat} {D : DM} {r1 r2 : Int64} {p : Nat → Nat} (hp : solD c n d (updD (updD D (c i).2.2.1 (D (c i).2.2.1 &&& r1)) (c i).2.1 (D (c i).2.1 &&& r2)) p) : solD c n d D p := by
  refine ⟨fun k hk => ?_, hp.2⟩
  have a := hp.1 k hk
  by_cases h1 : k = (c i).2.1
  · rw [h1, updD_same, bt_and, Bool.and_eq_true] at a
    rw [h1]; exact a.1
  · rw [updD_ne _ _ h1] at a
    by_cases h2 : k = (c i).2.2.1
    · rw [h2, updD_same, bt_and, Bool.and_eq_true] at a
      rw [h2]; exact a.1
    · rw [updD_ne _ _ h2] at a; exact a
theorem arc_same {K g : Int} {F S : Nat} {D : DM} {r1 r2 : Int64} (g1 : gwR K g 1 (D F) r1) (g2 : gwR K g 0 (D S &&& r1) r2) (e1 : D S &&& r1 = D S) (e2 : D F &&& r2 = D F) (h1 : D F ≠ 0) (h2 : D S ≠ 0) : arcD K F S g D := by
  refine ⟨fun k hk => ?_, fun j hj => ?_, h1, h2⟩
  · rw [← e1, bt_and, Bool.and_eq_true] at hk
    exact ((gw_f g1 k).mp hk.2).2
  · rw [← e2, bt_and, Bool.and_eq_true] at hj
    rw [e1] at g2
    exact ((gw_b g2 j).mp hj.2).2
theorem sz_and (u r : Int64) (n : Nat) : sm (fun k => if bt (u &&& r) k then (1 : Int) else 0) n ≤ sm (fun k => if bt u k then (1 : Int) else 0) n ∧ ((∃ k, k < n ∧ bt (u &&& r) k ≠ bt u k) → sm (fun k => if bt (u &&& r) k then (1 : Int) else 0) n < sm (fun k => if bt u k then (1 : Int) else 0) n) := by
  induction n with
  | zero => exact ⟨Int.le_refl _, fun ⟨k, hk, _⟩ => by omega⟩
  | succ n ih =>
    obtain ⟨a, b⟩ := ih
    show sm _ n + (if bt (u &&& r) n = true then (1 : Int) else 0) ≤ sm _ n + (if bt u n = true then (1 : Int) else 0) ∧ (_ → sm _ n + (if bt (u &&& r) n = true then (1 : Int) else 0) < sm _ n + (if bt u n = true then (1 : Int) else 0))
    have e : bt (u &&& r) n = (bt u n && bt r n) := bt_and u r n
    have l : (if bt (u &&& r) n = true then (1 : Int) else 0) ≤ (if bt u n = true then (1 : Int) else 0) := by
      rw [e]
      cases bt u n <;> cases bt r n <;> decide
    refine ⟨by omega, fun ⟨k, hk, hd⟩ => ?_⟩
    by_cases h : k = n
    · subst h
      have l2 : (if bt (u &&& r) k = true then (1 : Int) else 0) < (if bt u k = true then (1 : Int) else 0) := by
        rw [e] at hd ⊢
        revert hd
        cases bt u k <;> cases bt r k <;> decide
      omega
    · have := b ⟨k, by omega, hd⟩
      omega
theorem szV_and {u r : Int64} (hu : vd u) : szV (u &&& r) ≤ szV u ∧ (u &&& r ≠ u → szV (u &&& r) < szV u) := by
  obtain ⟨a, b⟩ := sz_and u r 41
  refine ⟨a, fun h => b ?_⟩
  apply Classical.byContradiction
  intro hn
  refine h (bt_ext (fun k _ => ?_))
  by_cases hk : k < 41
  · apply Classical.byContradiction
    intro q
    exact hn ⟨k, hk, q⟩
  · rw [bt_and, hu k (by omega)]; rfl
def szS (D : DM) : Int := sm (fun k => szV (D k)) 6
theorem szS_up {D : DM} {x : Nat} {v : Int64} (hx : x < 6) : szS (updD D x v) = szS D + (szV v - szV (D x)) := by
  have e : (fun k => szV (updD D x v k)) = upf (fun k => szV (D k)) x (szV v) := by
    funext k
    unfold updD upf
    split <;> rfl
  unfold szS
  rw [e, sm_up, if_pos hx]

