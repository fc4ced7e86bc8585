/-! longs as sets of heights -/
def bt (v : Int64) (k : Nat) : Bool := v.toBitVec.getLsbD k
def shA (n : Int) : Int64 := (i3 n).toInt64 &&& 63
theorem shA_fin : ∀ n : Fin 64, ((shA (n.val : Int)).toBitVec.smod 64).toNat = n.val := by decide +kernel
theorem shA_ok {n : Int} (h : 0 ≤ n ∧ n < 64) : ((shA n).toBitVec.smod 64).toNat = n.toNat := by
  have a := shA_fin ⟨n.toNat, by omega⟩
  have e : ((n.toNat : Nat) : Int) = n := by omega
  simp only [e] at a
  exact a
theorem bt_and (u v : Int64) (k : Nat) : bt (u &&& v) k = (bt u k && bt v k) := by
  unfold bt
  rw [Int64.toBitVec_and, BitVec.getLsbD_and]
theorem bt_or (u v : Int64) (k : Nat) : bt (u ||| v) k = (bt u k || bt v k) := by
  unfold bt
  rw [Int64.toBitVec_or, BitVec.getLsbD_or]
theorem bt_hi (v : Int64) {k : Nat} (h : 64 ≤ k) : bt v k = false := BitVec.getLsbD_of_ge _ _ h
theorem bt_shl (u : Int64) {n : Int} (h : 0 ≤ n ∧ n < 64) (k : Nat) : bt (u <<< shA n) k = (decide (k < 64) && !decide (k < n.toNat) && bt u (k - n.toNat)) := by
  unfold bt
  rw [Int64.toBitVec_shiftLeft, BitVec.shiftLeft_eq', BitVec.getLsbD_shiftLeft, shA_ok h]
theorem bt_shr (u : Int64) {n : Int} (h : 0 ≤ n ∧ n < 64) (hu : bt u 63 = false) (k : Nat) : bt (u >>> shA n) k = bt u (k + n.toNat) := by
  unfold bt
  rw [Int64.toBitVec_shiftRight]
  unfold BitVec.sshiftRight'
  rw [BitVec.getLsbD_sshiftRight, shA_ok h]
  have hm : u.toBitVec.msb = false := by
    rw [BitVec.msb_eq_getLsbD_last]
    exact hu
  rw [hm]
  by_cases h2 : n.toNat + k < 64
  · rw [if_pos h2, Nat.add_comm k]
    simp
    omega
  · rw [if_neg h2]
    have := bt_hi u (k := k + n.toNat) (by omega)
    unfold bt at this
    rw [this]
    simp
theorem bt_ext {u v : Int64} (h : ∀ k, k < 64 → bt u k = bt v k) : u = v := Int64.toBitVec_inj.mp (BitVec.eq_of_getLsbD_eq (fun i hi => h i hi))
theorem bt_zero (k : Nat) : bt 0 k = false := by
  unfold bt
  show (0 : BitVec 64).getLsbD k = false
  simp
theorem bt_one (k : Nat) : bt 1 k = decide (k = 0) := by
  unfold bt
  show (1#64).getLsbD k = decide (k = 0)
  simp
def mkV : Int64 := Int64.ofNat 2199023255551
theorem mkV_fin : ∀ k : Fin 64, bt mkV k.val = decide (k.val ≤ 40) := by decide +kernel
theorem bt_mk (k : Nat) : bt mkV k = decide (k ≤ 40) := by
  by_cases h : k < 64
  · exact mkV_fin ⟨k, h⟩
  · rw [bt_hi _ (by omega), decide_eq_false (by omega)]
theorem m1_fin : ∀ k : Fin 64, bt (Int64.ofInt (-1)) k.val = true := by decide +kernel
theorem bt_m1 (k : Nat) : bt (Int64.ofInt (-1)) k = decide (k < 64) := by
  by_cases h : k < 64
  · rw [decide_eq_true h]; exact m1_fin ⟨k, h⟩
  · rw [bt_hi _ (by omega), decide_eq_false h]
theorem low_fin : ∀ n : Fin 40, ∀ k : Fin 64, bt ((1 <<< shA ((n.val : Int) + 1)) - 1) k.val = decide (k.val ≤ n.val) := by decide +kernel
def fromV (n : Int) : Int64 := if 40 < n then 0 else if n ≤ 0 then mkV else mkV &&& (Int64.ofInt (-1) <<< shA n)
def tillV (n : Int) : Int64 := if n < 0 then 0 else if 40 ≤ n then mkV else (1 <<< shA (n + 1)) - 1
theorem bt_from (n : Int) (k : Nat) : bt (fromV n) k = decide (k ≤ 40 ∧ n ≤ (k : Int)) := by
  unfold fromV
  by_cases h1 : 40 < n
  · rw [if_pos h1, bt_zero]
    exact (decide_eq_false (by omega)).symm
  · rw [if_neg h1]
    by_cases h2 : n ≤ 0
    · rw [if_pos h2, bt_mk]
      exact decide_eq_decide.mpr ⟨fun h => ⟨h, by omega⟩, fun h => h.1⟩
    · rw [if_neg h2, bt_and, bt_mk, bt_shl _ (by omega), bt_m1]
      by_cases hk : k ≤ 40
      · by_cases hn : n ≤ (k : Int)
        · rw [decide_eq_true hk, decide_eq_true (show k < 64 by omega), decide_eq_false (show ¬ k < n.toNat by omega), decide_eq_true (show k - n.toNat < 64 by omega), decide_eq_true (⟨hk, hn⟩ : k ≤ 40 ∧ n ≤ (k : Int))]
          rfl
        · rw [decide_eq_true (show k < n.toNat by omega), decide_eq_false (show ¬ (k ≤ 40 ∧ n ≤ (k : Int)) by omega)]
          simp
      · rw [decide_eq_false hk, decide_eq_false (show ¬ (k ≤ 40 ∧ n ≤ (k : Int)) by omega)]
        rfl
theorem bt_till (n : Int) (k : Nat) : bt (tillV n) k = decide (k ≤ 40 ∧ (k : Int) ≤ n) := by
  unfold tillV
  by_cases h1 : n < 0
  · rw [if_pos h1, bt_zero]
    exact (decide_eq_false (by omega)).symm
  · rw [if_neg h1]
    by_cases h2 : 40 ≤ n
    · rw [if_pos h2, bt_mk]
      exact decide_eq_decide.mpr ⟨fun h => ⟨h, by omega⟩, fun h => h.1⟩
    · rw [if_neg h2]
      by_cases hk : k < 64
      · have a := low_fin ⟨n.toNat, by omega⟩ ⟨k, hk⟩
        have e : ((n.toNat : Nat) : Int) = n := by omega
        simp only [e] at a
        rw [a]
        exact decide_eq_decide.mpr (by omega)
      · rw [bt_hi _ (by omega), decide_eq_false (by omega)]
theorem bt_bit {n : Int} (h : 0 ≤ n ∧ n < 64) (k : Nat) : bt (1 <<< shA n) k = decide (k = n.toNat) := by
  by_cases hk : k < 64
  · rw [bt_shl _ h, bt_one, decide_eq_true hk]
    by_cases e : k = n.toNat
    · subst e
      simp
    · by_cases l : k < n.toNat
      · simp [l, e]
      · simp [l, e]
        omega
  · rw [bt_hi _ (by omega), decide_eq_false (by omega)]
/-- a set of heights -/
def vd (v : Int64) : Prop := ∀ k, 40 < k → bt v k = false
theorem vd_and {u v : Int64} (h : vd u) : vd (u &&& v) := fun k hk => by rw [bt_and, h k hk]; rfl
theorem vd_eq0 {v : Int64} : v = 0 ↔ ∀ k, bt v k = false := ⟨fun h k => by rw [h]; exact bt_zero k, fun h => bt_ext (fun k _ => by rw [h k, bt_zero])⟩
theorem vd_ex {v : Int64} (hv : vd v) (h : v ≠ 0) : ∃ k, k ≤ 40 ∧ bt v k = true := by
  apply Classical.byContradiction
  intro hn
  refine h (vd_eq0.mpr (fun k => ?_))
  cases e : bt v k
  · rfl
  · by_cases hk : 40 < k
    · rw [hv k hk] at e; exact absurd e (by decide)
    · exact absurd ⟨k, by omega, e⟩ hn
/-- a height is in: the shift and the last bit -/
theorem and1 (v : Int64) (hv : bt v 63 = false) {n : Int} (h : 0 ≤ n ∧ n < 64) : (v >>> shA n) &&& 1 = if bt v n.toNat then 1 else 0 := by
  refine bt_ext (fun k hk => ?_)
  rw [bt_and, bt_one, bt_shr v h hv]
  by_cases e : k = 0
  · subst e
    rw [Nat.zero_add]
    cases bt v n.toNat <;> simp [bt_one, bt_zero]
  · rw [decide_eq_false e]
    cases bt v n.toNat <;> simp [bt_one, bt_zero, e]

