/-! a whole heap of the small machine on the machine's -/
def fvl (B : Nat) (CS : Nat → Nat) (A : HP) (a k t : Nat) : Value := match t with
  | 1 => .long (hJ A a k)
  | 2 => va_rf ((hR A a k).map (adr B CS))
  | _ => .int (hI A a k)
def objL (B : Nat) (CS : Nat → Nat) (A : HP) (a : Nat) (ts : List Nat) : List Value := (List.range ts.length).map (fun k => fvl B CS A a k (ts.getD k 0))
def celA (B : Nat) (CS : Nat → Nat) (dA : Nat → ClassId) (A : HP) (a : Nat) : Option va_E := match hK A a with
  | (1, n) => some (.inl (dA 1, n, .inl (hI A a)))
  | (2, n) => some (.inl (dA 2, n, .inr (.inl (hJ A a))))
  | (3, n) => some (.inl (dA 3, n, .inl (hI A a)))
  | (4, n) => some (.inl (dA 4, n, .inl (hI A a)))
  | (5, n) => some (.inl (dA 5, n, .inr (.inr (.inr (.inl (hU A a))))))
  | (6, n) => some (.inl (dA 6, n, .inr (.inr (.inr (.inr (fun j => (hR A a j).map (adr B CS)))))))
  | (7, n) => some (.inl (dA 7, n, .inr (.inr (.inr (.inr (fun j => (hR A a j).map (adr B CS)))))))
  | (8, n) => some (.inl (dA 4, n, .inl (hI A a)))
  | (k + 10, 0) => some (.inr (k, objL B CS A a (ftag k)))
  | _ => none
theorem celA_congr {B : Nat} {CS : Nat → Nat} {dA : Nat → ClassId} {A A' : HP} {b : Nat} (h1 : hK A' b = hK A b) (h2 : hI A' b = hI A b) (h3 : hJ A' b = hJ A b) (h4 : hR A' b = hR A b) (h5 : hU A' b = hU A b) : celA B CS dA A' b = celA B CS dA A b := by
  have e : ∀ ts, objL B CS A' b ts = objL B CS A b ts := by
    intro ts
    unfold objL
    refine List.map_congr_left (fun k _ => ?_)
    unfold fvl
    rw [h2, h3, h4]
  unfold celA
  rw [h1, h2, h3, h4, h5]
  split <;> first | rfl | (rw [e])
theorem celA_ne {B : Nat} {CS : Nat → Nat} {dA : Nat → ClassId} {A : HP} {a : Nat} {e : va_E} (h : celA B CS dA A a = some e) : (hK A a).1 ≠ 0 := by
  intro h0
  unfold celA at h
  split at h <;> first | (rename_i q; rw [q] at h0; revert h0; simp; done) | (cases h)
/-- the machine's heap H holds the small heap A: from B on; constants where CS says; below B nothing has changed since Hb -/
def Rel (B : Nat) (Hb : Heap) (CS : Nat → Nat) (dC : Nat → ClassId) (dI : Nat → Nat → Nat) (dA : Nat → ClassId) (A : HP) (H : Heap) : Prop :=
  Hb.size = B ∧ H.size = B + hn A ∧ hn A < BIG ∧ (∀ q : Nat, q < B → H[q]? = Hb[q]?) ∧ (∀ a, (hK A a).1 ≠ 0 → a < hn A ∨ (BIG ≤ a ∧ CS (a - BIG) < B ∧ ((hK A a).1 = 8 ∨ (hK A a).1 = 21))) ∧ (∀ a e, celA B CS dA A a = some e → va_at (dC, dI) wcl (adr B CS a, e) H)
section R
variable {B : Nat} {Hb : Heap} {CS : Nat → Nat} {dC : Nat → ClassId} {dI : Nat → Nat → Nat} {dA : Nat → ClassId}
theorem Rel.size {A : HP} {H : Heap} (h : Rel B Hb CS dC dI dA A H) : H.size = B + hn A := h.2.1
theorem Rel.at {A : HP} {H : Heap} (h : Rel B Hb CS dC dI dA A H) {a : Nat} {e : va_E} (he : celA B CS dA A a = some e) : va_at (dC, dI) wcl (adr B CS a, e) H := h.2.2.2.2.2 a e he
theorem Rel.own {A : HP} {H : Heap} (h : Rel B Hb CS dC dI dA A H) {a : Nat} {k : Nat × Nat} (hk : hK A a = k) (h0 : k.1 ≠ 0) (h8 : k.1 ≠ 8) (h21 : k.1 ≠ 21) : a < hn A ∧ a < BIG ∧ adr B CS a = B + a := by
  have h1 : a < hn A := by
    rcases h.2.2.2.2.1 a (by rw [hk]; exact h0) with h1 | ⟨-, -, h1⟩
    · exact h1
    · rw [hk] at h1
      rcases h1 with h1 | h1
      · exact absurd h1 h8
      · exact absurd h1 h21
  have h2 : a < BIG := Nat.lt_trans h1 h.2.2.1
  exact ⟨h1, h2, if_pos h2⟩
/-- one own cell has changed -/
theorem Rel.put {A A' : HP} {H H' : Heap} (h : Rel B Hb CS dC dI dA A H) {a : Nat} (ha : a < hn A) (hsz : H'.size = H.size) (ho : ∀ q : Nat, q ≠ B + a → H'[q]? = H[q]?)
    (hK' : hK A' = hK A) (hn' : hn A' = hn A) (hoth : ∀ b, b ≠ a → celA B CS dA A' b = celA B CS dA A b) (hnew : ∀ e, celA B CS dA A' a = some e → va_at (dC, dI) wcl (B + a, e) H') : Rel B Hb CS dC dI dA A' H' := by
  obtain ⟨h1, h2, h3, h4, h5, h6⟩ := h
  refine ⟨h1, by rw [hsz, hn']; exact h2, by rw [hn']; exact h3, fun q hq => ?_, by rw [hK', hn']; exact h5, fun b e he => ?_⟩
  · rw [ho q (by omega)]
    exact h4 q hq
  · by_cases hb : b = a
    · subst hb
      have : adr B CS b = B + b := if_pos (Nat.lt_trans ha h3)
      rw [this]
      exact hnew e he
    · have hne := celA_ne he
      rw [hoth b hb] at he
      refine (h6 b e he).kept (ho _ ?_)
      show adr B CS b ≠ B + a
      unfold adr
      split
      · omega
      · rename_i hB
        rw [hK'] at hne
        rcases h5 b hne with h7 | ⟨-, h7, -⟩
        · omega
        · omega
/-- a new cell at the end -/
theorem Rel.push {A A' : HP} {H H' : Heap} (h : Rel B Hb CS dC dI dA A H) (hsz : H'.size = H.size + 1) (ho : ∀ q : Nat, q < H.size → H'[q]? = H[q]?) (hB : hn A + 1 < BIG)
    (hn' : hn A' = hn A + 1) (hKo : ∀ b, b ≠ hn A → hK A' b = hK A b) (hoth : ∀ b, b ≠ hn A → celA B CS dA A' b = celA B CS dA A b) (hnew : ∀ e, celA B CS dA A' (hn A) = some e → va_at (dC, dI) wcl (B + hn A, e) H') : Rel B Hb CS dC dI dA A' H' := by
  obtain ⟨h1, h2, h3, h4, h5, h6⟩ := h
  refine ⟨h1, by rw [hsz, h2, hn']; omega, by rw [hn']; exact hB, fun q hq => ?_, fun a ha => ?_, fun b e he => ?_⟩
  · rw [ho q (by omega)]
    exact h4 q hq
  · by_cases hb : a = hn A
    · left; rw [hn', hb]; omega
    · rw [hKo a hb] at ha ⊢
      rcases h5 a ha with h7 | h7
      · left; rw [hn']; omega
      · exact Or.inr h7
  · by_cases hb : b = hn A
    · subst hb
      have : adr B CS (hn A) = B + hn A := if_pos h3
      rw [this]
      exact hnew e he
    · rw [hoth b hb] at he
      have h8 := h6 b e he
      exact h8.kept (ho _ h8.lt)
/-- an exception's cell -/
theorem Rel.junked {A : HP} {H H' : Heap} {w : Nat} (h : Rel B Hb CS dC dI dA A H) (hsz : H'.size = H.size + 1) (ho : ∀ q : Nat, q < H.size → H'[q]? = H[q]?) (hB : hn A + 1 < BIG) : Rel B Hb CS dC dI dA (junk A w) H' := by
  obtain ⟨h1, h2, h3, h4, h5, h6⟩ := h
  have e1 : hn (junk A w) = hn A + 1 := rfl
  refine ⟨h1, by rw [hsz, h2, e1]; omega, by rw [e1]; exact hB, fun q hq => ?_, fun a ha => ?_, fun b e he => ?_⟩
  · rw [ho q (by omega)]
    exact h4 q hq
  · rcases h5 a ha with h7 | h7
    · left; rw [e1]; omega
    · exact Or.inr h7
  · have h8 := h6 b e he
    exact h8.kept (ho _ h8.lt)
end R
