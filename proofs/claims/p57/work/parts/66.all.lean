/-! what is computed of each method, together -/
def tX : List (Nat × Nat × Nat × Nat) := [(19, 0, 5133, 3129), (21, 1, 5134, 5170), (27, 2, 5089, 2102), (40, 3, 5077, 2217)]
def hB (own : Nat) : List (Nat × Nat × Nat × Nat) → List (Nat × Nat × Nat × Nat) → Bool
  | [], [] => true
  | a :: l, b :: l2 => Nat.beq own 12 && Nat.beq a.1 b.1 && Nat.beq a.2.1 b.2.1 && Nat.beq a.2.2.1 b.2.2.1 && tX.any (fun r => Nat.beq r.1 a.2.2.2 && Nat.beq r.2.1 b.2.2.2) && hB own l l2
  | _, _ => false
section
set_option maxRecDepth 100000
theorem tX_ok : ∀ r ∈ tX, r.2.1 < 4 ∧ r.1 ≠ 0 ∧ tbg r.2.2.1 = some (Jvm.Cond.classLink (cnm 12) r.1 (exN r.2.1)) ∧ tbg r.2.2.2 = some (Jvm.Cond.castable (exN r.2.1) (exN r.2.1)) := by decide +kernel
theorem hB_ok {own : Nat} : ∀ (l l2 : List (Nat × Nat × Nat × Nat)), hB own l l2 = true → hhOK (cnm own) l l2
  | [], [], _ => trivial
  | [], _ :: _, h => by cases h
  | _ :: _, [], h => by cases h
  | a :: l, b :: l2, h => by
    simp only [hB, Bool.and_eq_true, Nat.beq_eq] at h
    obtain ⟨⟨⟨⟨⟨e0, e1⟩, e2⟩, e3⟩, e4⟩, h⟩ := h
    subst e0
    obtain ⟨r, hr, e4⟩ := List.any_eq_true.mp e4
    simp only [Bool.and_eq_true, Nat.beq_eq] at e4
    obtain ⟨q1, q2, q3, q4⟩ := tX_ok r hr
    rw [e4.1] at q2 q3
    rw [e4.2] at q1 q3 q4
    exact ⟨e1, e2, e3, q1, q2, tbg_mem q3, tbg_mem q4, hB_ok l l2 h⟩
theorem md_all : (List.range 173).all (fun k => hB (mo k) (mi k).2.2.2.2.1 (md k).2.2.2 && Nat.beq (mi k).2.2.1 (md k).2.1 && Nat.blt (mo k) 20 && decide ((mi k).1.cls = cnm (mo k)) && (!(mi k).2.2.2.2.2 || decide ((mi k).1.name = "<init>"))) = true := by decide +kernel
theorem rl_all : mB 0 cl_L_law = true := by
  unfold cl_L_law mB
  simp only [List.all_append, Bool.and_eq_true]
  exact ⟨⟨⟨⟨⟨⟨⟨⟨⟨⟨rl_0, rl_1⟩, rl_2⟩, rl_3⟩, rl_4⟩, rl_5⟩, rl_6⟩, rl_7⟩, rl_8⟩, rl_9⟩, rl_10⟩
end
theorem ra_at {a n k : Nat} (h : (List.range' a n).all (fun k => mB k (md k).1) = true) (h1 : a ≤ k) (h2 : k < a + n) : mB k (md k).1 = true :=
  List.all_eq_true.mp h k (List.mem_range'_1.mpr ⟨h1, h2⟩)
theorem mB_all {k : Nat} (hk : k < 173) : mB k (md k).1 = true := by
  by_cases h0 : k < 1
  · have : k = 0 := by omega
    subst this
    exact rl_all
  by_cases h1 : k < 9
  · exact ra_at ra_1 (by omega) h1
  by_cases h9 : k < 17
  · exact ra_at ra_9 (by omega) h9
  by_cases h17 : k < 25
  · exact ra_at ra_17 (by omega) h17
  by_cases h25 : k < 33
  · exact ra_at ra_25 (by omega) h25
  by_cases h33 : k < 41
  · exact ra_at ra_33 (by omega) h33
  by_cases h41 : k < 49
  · exact ra_at ra_41 (by omega) h41
  by_cases h49 : k < 57
  · exact ra_at ra_49 (by omega) h49
  by_cases h57 : k < 65
  · exact ra_at ra_57 (by omega) h57
  by_cases h65 : k < 73
  · exact ra_at ra_65 (by omega) h65
  by_cases h73 : k < 81
  · exact ra_at ra_73 (by omega) h73
  by_cases h81 : k < 89
  · exact ra_at ra_81 (by omega) h81
  by_cases h89 : k < 97
  · exact ra_at ra_89 (by omega) h89
  by_cases h97 : k < 105
  · exact ra_at ra_97 (by omega) h97
  by_cases h105 : k < 113
  · exact ra_at ra_105 (by omega) h105
  by_cases h113 : k < 121
  · exact ra_at ra_113 (by omega) h113
  by_cases h121 : k < 129
  · exact ra_at ra_121 (by omega) h121
  by_cases h129 : k < 137
  · exact ra_at ra_129 (by omega) h129
  by_cases h137 : k < 145
  · exact ra_at ra_137 (by omega) h137
  by_cases h145 : k < 153
  · exact ra_at ra_145 (by omega) h145
  by_cases h153 : k < 161
  · exact ra_at ra_153 (by omega) h153
  by_cases h161 : k < 169
  · exact ra_at ra_161 (by omega) h161
  by_cases h169 : k < 173
  · exact ra_at ra_169 (by omega) h169
  · omega
theorem mdOK_all {k : Nat} (hk : k < 173) : mdOK k := by
  have h := List.all_eq_true.mp md_all k (List.mem_range.mpr hk)
  simp only [Bool.and_eq_true, Nat.beq_eq, decide_eq_true_eq, Bool.or_eq_true, Bool.not_eq_true'] at h
  obtain ⟨⟨⟨⟨h1, h2⟩, h3⟩, h4⟩, h5⟩ := h
  refine ⟨mB_all hk, hB_ok _ _ h1, h2, blt_ok h3, h4, fun hz => ?_⟩
  rcases h5 with h5 | h5
  · rw [hz] at h5; cases h5
  · exact h5
theorem sound_all (d : Nat) : okS2 d (SpecF md d) := sound (fun k _ hk => mdOK_all hk) d
