/-! a whole heap of the small machine on the machine's -/
def fvl (B : Nat) (CS : KT) (A : HP) (a k t : Nat) : Value := match t with
  | 1 => .long (hJ A a k)
  | 2 => va_rf ((hR A a k).map (adr B CS))
  | _ => .int (hI A a k)
def objL (B : Nat) (CS : KT) (A : HP) (a : Nat) (ts : List Nat) : List Value := (List.range ts.length).map (fun k => fvl B CS A a k (ts.getD k 0))
def celA (B : Nat) (CS : KT) (dA : Nat → ClassId) (A : HP) (a : Nat) : Option va_E := match hK A a with
  | (1, n) => some (.inl (dA 1, n, .inl (hI A a)))
  | (2, n) => some (.inl (dA 2, n, .inr (.inl (hJ A a))))
  | (3, n) => some (.inl (dA 3, n, .inl (hI A a)))
  | (4, n) => some (.inl (dA 4, n, .inl (hI A a)))
  | (5, n) => some (.inl (dA 5, n, .inr (.inr (.inr (.inl (hU A a))))))
  | (6, n) => some (.inl (dA 6, n, .inr (.inr (.inr (.inr (fun j => (hR A a j).map (adr B CS)))))))
  | (7, n) => some (.inl (dA 7, n, .inr (.inr (.inr (.inr (fun j => (hR A a j).map (adr B CS)))))))
  | (k + 10, 0) => if k = 11 ∧ BIG ≤ a then none else some (.inr (k, objL B CS A a (ftag k)))
  | _ => none
theorem celA_congr {B : Nat} {CS : KT} {dA : Nat → ClassId} {A A' : HP} {b : Nat} (h1 : hK A' b = hK A b) (h2 : hI A' b = hI A b) (h3 : hJ A' b = hJ A b) (h4 : hR A' b = hR A b) (h5 : hU A' b = hU A b) : celA B CS dA A' b = celA B CS dA A b := by
  have e : ∀ ts, objL B CS A' b ts = objL B CS A b ts := by
    intro ts
    unfold objL
    refine List.map_congr_left (fun k _ => ?_)
    unfold fvl
    rw [h2, h3, h4]
  unfold celA
  rw [h1, h2, h3, h4, h5]
  split <;> first | rfl | (rw [e])
theorem celA_ne {B : Nat} {CS : KT} {dA : Nat → ClassId} {A : HP} {a : Nat} {e : va_E} (h : celA B CS dA A a = some e) : (hK A a).1 ≠ 0 ∧ (hK A a).1 ≠ 8 ∧ (hK A a).1 ≠ 9 ∧ ((hK A a).1 = 21 → a < BIG) := by
  unfold celA at h
  split at h <;> first | (rename_i q; rw [q]; simp; done) | (rename_i k q; rw [q]; split at h; (cases h); simp; omega) | (cases h)
/-- the machine's heap H holds the small heap A: from B on; constants where CS says; below B nothing has changed since Hb -/
def Rel (B : Nat) (Hb : Heap) (CS : KT) (dC : Nat → ClassId) (dI : Nat → Nat → Nat) (dA : Nat → ClassId) (A : HP) (H : Heap) : Prop :=
  Hb.size = B ∧ H.size = B + hn A ∧ hn A < BIG ∧ (∀ q : Nat, q < B → H[q]? = Hb[q]?) ∧ (∀ a, (hK A a).1 ≠ 0 → (a < hn A ∧ (hK A a).1 ≠ 8 ∧ (hK A a).1 ≠ 9) ∨ (BIG ≤ a ∧ ((hK A a).1 = 8 ∨ (hK A a).1 = 9 ∨ (hK A a).1 = 21))) ∧ (∀ a e, celA B CS dA A a = some e → va_at (dC, dI) wcl (adr B CS a, e) H) ∧ (∀ a, BIG ≤ a → hK A a = hK CS.2 a ∧ hI A a = hI CS.2 a ∧ hR A a = hR CS.2 a)
section R
variable {B : Nat} {Hb : Heap} {CS : KT} {dC : Nat → ClassId} {dI : Nat → Nat → Nat} {dA : Nat → ClassId}
theorem Rel.size {A : HP} {H : Heap} (h : Rel B Hb CS dC dI dA A H) : H.size = B + hn A := h.2.1
theorem Rel.at {A : HP} {H : Heap} (h : Rel B Hb CS dC dI dA A H) {a : Nat} {e : va_E} (he : celA B CS dA A a = some e) : va_at (dC, dI) wcl (adr B CS a, e) H := h.2.2.2.2.2.1 a e he
theorem Rel.own {A : HP} {H : Heap} (h : Rel B Hb CS dC dI dA A H) {a : Nat} {k : Nat × Nat} (hk : hK A a = k) (h0 : k.1 ≠ 0) (h8 : k.1 ≠ 8 ∧ k.1 ≠ 9) (h21 : k.1 = 21 → a < BIG) : a < hn A ∧ a < BIG ∧ adr B CS a = B + a := by
  have h1 : a < hn A := by
    rcases h.2.2.2.2.1 a (by rw [hk]; exact h0) with ⟨h1, -⟩ | ⟨h9, h1⟩
    · exact h1
    · rw [hk] at h1
      rcases h1 with h1 | h1 | h1
      · exact absurd h1 h8.1
      · exact absurd h1 h8.2
      · exact absurd (h21 h1) (by omega)
  have h2 : a < BIG := Nat.lt_trans h1 h.2.2.1
  exact ⟨h1, h2, if_pos h2⟩
theorem Rel.kon {A : HP} {H : Heap} (h : Rel B Hb CS dC dI dA A H) {a : Nat} {k : Nat × Nat} (hk : hK A a = k) (h8 : k.1 = 8 ∨ k.1 = 9 ∨ (k.1 = 21 ∧ BIG ≤ a)) : ∃ j, a = BIG + j ∧ adr B CS a = CS.1 j ∧ hK CS.2 (BIG + j) = k ∧ hI CS.2 (BIG + j) = hI A a ∧ hR CS.2 (BIG + j) = hR A a := by
  rcases h.2.2.2.2.1 a (by rw [hk]; omega) with ⟨h0, h1, h2⟩ | ⟨h1, -⟩
  · rw [hk] at h1 h2
    have := h.2.2.1
    omega
  · obtain ⟨g1, g2, g3⟩ := h.2.2.2.2.2.2 a h1
    have e : a = BIG + (a - BIG) := by omega
    refine ⟨a - BIG, e, ?_, ?_, ?_, ?_⟩
    · unfold adr
      rw [if_neg (by omega)]
    · rw [← e, ← g1, hk]
    · rw [← e, g2]
    · rw [← e, g3]
theorem c5 {A A' : HP} {b : Nat} (h1 : hK A' b = hK A b) (h2 : hI A' b = hI A b) (h3 : hJ A' b = hJ A b) (h4 : hR A' b = hR A b) (h5 : hU A' b = hU A b) : hK A' b = hK A b ∧ hI A' b = hI A b ∧ hJ A' b = hJ A b ∧ hR A' b = hR A b ∧ hU A' b = hU A b := ⟨h1, h2, h3, h4, h5⟩
/-- one own cell has changed -/
theorem Rel.put {A A' : HP} {H H' : Heap} (h : Rel B Hb CS dC dI dA A H) {a : Nat} (ha : a < hn A) (hsz : H'.size = H.size) (ho : ∀ q : Nat, q ≠ B + a → H'[q]? = H[q]?)
    (hK' : hK A' = hK A) (hn' : hn A' = hn A) (hoth : ∀ b, b ≠ a → hK A' b = hK A b ∧ hI A' b = hI A b ∧ hJ A' b = hJ A b ∧ hR A' b = hR A b ∧ hU A' b = hU A b) (hnew : ∀ e, celA B CS dA A' a = some e → va_at (dC, dI) wcl (B + a, e) H') : Rel B Hb CS dC dI dA A' H' := by
  obtain ⟨h1, h2, h3, h4, h5, h6, h7⟩ := h
  refine ⟨h1, by rw [hsz, hn']; exact h2, by rw [hn']; exact h3, fun q hq => ?_, by rw [hK', hn']; exact h5, fun b e he => ?_, fun b hb => ?_⟩
  · rw [ho q (by omega)]
    exact h4 q hq
  · by_cases hb : b = a
    · subst hb
      have : adr B CS b = B + b := if_pos (Nat.lt_trans ha h3)
      rw [this]
      exact hnew e he
    · obtain ⟨g1, g2, g3, g4, g5⟩ := hoth b hb
      rw [celA_congr g1 g2 g3 g4 g5] at he
      have hne := celA_ne he
      refine (h6 b e he).kept (ho _ ?_)
      rcases h5 b hne.1 with ⟨h8, -⟩ | ⟨h9, h8⟩
      · show adr B CS b ≠ B + a
        unfold adr
        rw [if_pos (by omega)]
        omega
      · have := hne.2.2.2
        omega
  · obtain ⟨g1, g2, g3, g4, g5⟩ := hoth b (by omega)
    rw [g1, g2, g4]
    exact h7 b hb
/-- a new cell at the end -/
theorem Rel.push {A A' : HP} {H H' : Heap} (h : Rel B Hb CS dC dI dA A H) (hsz : H'.size = H.size + 1) (ho : ∀ q : Nat, q < H.size → H'[q]? = H[q]?) (hB : hn A + 1 < BIG)
    (hn' : hn A' = hn A + 1) (hkn : (hK A' (hn A)).1 ≠ 8 ∧ (hK A' (hn A)).1 ≠ 9) (hoth : ∀ b, b ≠ hn A → hK A' b = hK A b ∧ hI A' b = hI A b ∧ hJ A' b = hJ A b ∧ hR A' b = hR A b ∧ hU A' b = hU A b) (hnew : ∀ e, celA B CS dA A' (hn A) = some e → va_at (dC, dI) wcl (B + hn A, e) H') : Rel B Hb CS dC dI dA A' H' := by
  obtain ⟨h1, h2, h3, h4, h5, h6, h7⟩ := h
  refine ⟨h1, by rw [hsz, h2, hn']; omega, by rw [hn']; exact hB, fun q hq => ?_, fun a ha => ?_, fun b e he => ?_, fun b hb => ?_⟩
  · rw [ho q (by omega)]
    exact h4 q hq
  · by_cases hb : a = hn A
    · left
      subst hb
      exact ⟨by rw [hn']; omega, hkn⟩
    · rw [(hoth a hb).1] at ha ⊢
      rcases h5 a ha with ⟨h8, h9⟩ | h8
      · left; exact ⟨by rw [hn']; omega, h9⟩
      · exact Or.inr h8
  · by_cases hb : b = hn A
    · subst hb
      have : adr B CS (hn A) = B + hn A := if_pos h3
      rw [this]
      exact hnew e he
    · obtain ⟨g1, g2, g3, g4, g5⟩ := hoth b hb
      rw [celA_congr g1 g2 g3 g4 g5] at he
      have h8 := h6 b e he
      exact h8.kept (ho _ h8.lt)
  · obtain ⟨g1, g2, g3, g4, g5⟩ := hoth b (by omega)
    rw [g1, g2, g4]
    exact h7 b hb
/-- an exception's cell -/
theorem Rel.junked {A : HP} {H H' : Heap} {w : Nat} (h : Rel B Hb CS dC dI dA A H) (hsz : H'.size = H.size + 1) (ho : ∀ q : Nat, q < H.size → H'[q]? = H[q]?) (hB : hn A + 1 < BIG) : Rel B Hb CS dC dI dA (junk A w) H' := by
  obtain ⟨h1, h2, h3, h4, h5, h6, h7⟩ := h
  have e1 : hn (junk A w) = hn A + 1 := rfl
  refine ⟨h1, by rw [hsz, h2, e1]; omega, by rw [e1]; exact hB, fun q hq => ?_, fun a ha => ?_, fun b e he => ?_, h7⟩
  · rw [ho q (by omega)]
    exact h4 q hq
  · rcases h5 a ha with ⟨h8, h9⟩ | h8
    · left; exact ⟨by rw [e1]; omega, h9⟩
    · exact Or.inr h8
  · have h8 := h6 b e he
    exact h8.kept (ho _ h8.lt)
end R
