/-! passes over states that agree on six doors -/
def pAg (s t : PT) : Prop := (∀ k, k < 6 → s.1 k = t.1 k ∧ s.2.1 k = t.2.1 k) ∧ s.2.2 = t.2.2
theorem pAg.refl (s : PT) : pAg s s := ⟨fun _ _ => ⟨rfl, rfl⟩, rfl⟩
theorem pAg.symm {s t : PT} (h : pAg s t) : pAg t s := ⟨fun k hk => ⟨(h.1 k hk).1.symm, (h.1 k hk).2.symm⟩, h.2.symm⟩
theorem upf_ag {f g : Nat → Int} {x : Nat} {v : Int} (h : ∀ k, k < 6 → f k = g k) : ∀ k, k < 6 → upf f x v k = upf g x v k := fun k hk => by
  unfold upf
  rw [h k hk]
theorem rsM_ag {s t : PT} {x : Nat} {v : Int} (h : pAg s t) (hx : x < 6) : pAg (rsM s x v) (rsM t x v) := by
  unfold rsM
  rw [(h.1 x hx).1]
  split
  · exact ⟨fun k hk => ⟨upf_ag (fun k hk => (h.1 k hk).1) k hk, (h.1 k hk).2⟩, by show s.2.2 + 1 = t.2.2 + 1; rw [h.2]⟩
  · exact h
theorem skM_ag {s t : PT} {x : Nat} {v : Int} (h : pAg s t) (hx : x < 6) : pAg (skM s x v) (skM t x v) := by
  unfold skM
  rw [(h.1 x hx).2]
  split
  · exact ⟨fun k hk => ⟨(h.1 k hk).1, upf_ag (fun k hk => (h.1 k hk).2) k hk⟩, by show s.2.2 + 1 = t.2.2 + 1; rw [h.2]⟩
  · exact h
theorem loM_ag {s t : PT} {x : Nat} {u v : Int} (h : pAg s t) (hx : x < 6) : pAg (loM s x u v) (loM t x u v) := by
  unfold loM
  rw [(h.1 x hx).1]
  split
  · exact ⟨fun k hk => ⟨upf_ag (fun k hk => (h.1 k hk).1) k hk, (h.1 k hk).2⟩, by show s.2.2 + 1 = t.2.2 + 1; rw [h.2]⟩
  · exact h
theorem hiM_ag {s t : PT} {x : Nat} {u v : Int} (h : pAg s t) (hx : x < 6) : pAg (hiM s x u v) (hiM t x u v) := by
  unfold hiM
  rw [(h.1 x hx).2]
  split
  · exact ⟨fun k hk => ⟨(h.1 k hk).1, upf_ag (fun k hk => (h.1 k hk).2) k hk⟩, by show s.2.2 + 1 = t.2.2 + 1; rw [h.2]⟩
  · exact h
theorem koM_ag {s t : PT} {f x : Nat} {g : Int} (h : pAg s t) (hf : f < 6) (hx : x < 6) : pAg (koM s f x g) (koM t f x g) := by
  unfold koM
  rw [(h.1 f hf).1, (h.1 f hf).2]
  split
  · exact hiM_ag (loM_ag h hx) hx
  · exact h
theorem lwM_ag {s t : PT} {F S : Nat} {g : Int} (h : pAg s t) (hF : F < 6) (hS : S < 6) : pAg (lwM F S g s) (lwM F S g t) := by
  unfold lwM
  have h1 : pAg (rsM s S (s.1 F + g)) (rsM t S (t.1 F + g)) := by rw [(h.1 F hF).1]; exact rsM_ag h hS
  rw [(h1.1 S hS).2]
  exact skM_ag h1 hF
theorem exM_ag {s t : PT} {F S : Nat} {g : Int} (h : pAg s t) (hF : F < 6) (hS : S < 6) : pAg (exM F S g s) (exM F S g t) := by
  unfold exM
  have h1 : pAg (rsM s F (s.1 S - g)) (rsM t F (t.1 S - g)) := by rw [(h.1 S hS).1]; exact rsM_ag h hF
  rw [(h1.1 F hF).2]
  exact skM_ag h1 hS
theorem sp1_ag {s t : PT} {K : Int} {F S : Nat} {g : Int} (h : pAg s t) (hF : F < 6) (hS : S < 6) : pAg (sp1 K F S g s) (sp1 K F S g t) := by
  unfold sp1
  split
  · exact koM_ag (koM_ag h hF hS) hS hF
  · split
    · exact exM_ag (lwM_ag h hF hS) hF hS
    · exact lwM_ag h hF hS
theorem paM_ag {c d : CN} {wa : Int} {n : Nat} (hc : ∀ p, p < n → c p = d p ∧ (c p).2.1 < 6 ∧ (c p).2.2.1 < 6) : ∀ (r p : Nat) (s t : PT), p + r ≤ n → pAg s t → pAg (paM c wa r p s).1 (paM d wa r p t).1 ∧ (paM c wa r p s).2 = (paM d wa r p t).2
  | 0, _, _, _, _, h => ⟨h, rfl⟩
  | r + 1, p, s, t, hn, h => by
    obtain ⟨e, f1, f2⟩ := hc p (by omega)
    by_cases h1 : (c p).1 = 35 ∧ wa = 0
    · rw [paM_skip h1, paM_skip (by rw [← e]; exact h1)]
      exact paM_ag hc r (p + 1) s t (by omega) h
    · have a := sp1_ag (K := (c p).1) (g := (c p).2.2.2) h f1 f2
      by_cases h2 : (sp1 (c p).1 (c p).2.1 (c p).2.2.1 (c p).2.2.2 s).2.1 (c p).2.1 < (sp1 (c p).1 (c p).2.1 (c p).2.2.1 (c p).2.2.2 s).1 (c p).2.1 ∨ (sp1 (c p).1 (c p).2.1 (c p).2.2.1 (c p).2.2.2 s).2.1 (c p).2.2.1 < (sp1 (c p).1 (c p).2.1 (c p).2.2.1 (c p).2.2.2 s).1 (c p).2.2.1
      · rw [paM_conf h1 rfl h2, paM_conf (s' := sp1 (c p).1 (c p).2.1 (c p).2.2.1 (c p).2.2.2 t) (by rw [← e]; exact h1) (by rw [← e]) (by rw [← e, ← (a.1 _ f1).1, ← (a.1 _ f1).2, ← (a.1 _ f2).1, ← (a.1 _ f2).2]; exact h2)]
        exact ⟨a, rfl⟩
      · rw [paM_step h1 rfl h2, paM_step (s' := sp1 (c p).1 (c p).2.1 (c p).2.2.1 (c p).2.2.2 t) (by rw [← e]; exact h1) (by rw [← e]) (by rw [← e, ← (a.1 _ f1).1, ← (a.1 _ f1).2, ← (a.1 _ f2).1, ← (a.1 _ f2).2]; exact h2)]
        exact paM_ag hc r (p + 1) _ _ (by omega) a
theorem stM_ag {c d : CN} {wa : Int} {n : Nat} (hc : ∀ p, p < n → c p = d p ∧ (c p).2.1 < 6 ∧ (c p).2.2.1 < 6) : ∀ (k : Nat) (s t : PT) (i : Int), pAg s t → (stM c wa n k s i).1 = (stM d wa n k t i).1 ∧ pAg (stM c wa n k s i).2.1 (stM d wa n k t i).2.1 ∧ (stM c wa n k s i).2.2 = (stM d wa n k t i).2.2
  | 0, _, _, _, h => ⟨rfl, h, rfl⟩
  | k + 1, s, t, i, h => by
    obtain ⟨a1, a2⟩ := paM_ag hc n 0 s t (by omega) h
    rw [stM, stM, ← a2, ← a1.2, ← h.2]
    split
    · split
      · exact ⟨rfl, a1, rfl⟩
      · exact stM_ag hc k _ _ _ a1
    · exact ⟨rfl, a1, rfl⟩
/-- settling: bounded, narrower, in order -/
theorem stM_ok {c : CN} {wa : Int} {n : Nat} (hc : ∀ p, p < n → (c p).2.1 < 6 ∧ (c p).2.2.1 < 6) : ∀ (k : Nat) (s : PT) (i : Int), okB s → (stM c wa n k s i).1 = none → okB (stM c wa n k s i).2.1 ∧ nrw s (stM c wa n k s i).2.1 ∧ i ≤ (stM c wa n k s i).2.2 ∧ (stM c wa n k s i).2.2 ≤ i + 1 + wsm s
  | 0, s, i, h, _ => ⟨h, nrw.refl s, by show i ≤ i; omega, by have := okB_w h; show i ≤ i + 1 + wsm s; omega⟩
  | k + 1, s, i, h, e => by
    obtain ⟨p1, p2, -⟩ := paM_ok (wa := wa) hc n 0 s (by omega) h
    rw [stM] at e ⊢
    split
    · rename_i hn
      have o2 := p2 hn
      have w1 := okB_w o2
      have w2 := p1.2.2.1
      have w3 := p1.2.1
      have w0 := okB_w h
      split
      · exact ⟨o2, p1, by show i ≤ i + 1; omega, by show i + 1 ≤ i + 1 + wsm s; omega⟩
      · rename_i hne
        rw [if_pos hn, if_neg hne] at e
        obtain ⟨a, b, d, f⟩ := stM_ok hc k _ _ o2 e
        refine ⟨a, p1.trans b, by omega, by omega⟩
    · rename_i hn
      rw [if_neg hn] at e
      exact absurd e hn
theorem stM_p {c : CN} {wa : Int} {n : Nat} (hc : ∀ p, p < n → (c p).2.1 < 6 ∧ (c p).2.2.1 < 6) : ∀ (k : Nat) (s : PT) (i : Int) (p : Nat), okB s → (stM c wa n k s i).1 = some p → p < n
  | 0, _, _, _, _, e => by cases e
  | k + 1, s, i, p, h, e => by
    obtain ⟨-, p2, p3⟩ := paM_ok (wa := wa) hc n 0 s (by omega) h
    rw [stM] at e
    split at e
    · rename_i hn
      split at e
      · cases e
      · exact stM_p hc k _ _ p (p2 hn) e
    · have := p3 p e
      omega
theorem wfR_6 {q : Int} {R : RW} (h : WfR q R) : ∀ p, p < (R 1).toNat → (cnR R p).2.1 < 6 ∧ (cnR R p).2.2.1 < 6 := fun p hp => by
  have a := h.1
  obtain ⟨-, -, b, c, -⟩ := h.2.2.2.2.2.2 p (by omega)
  exact ⟨by show (R (29 + 5 * p + 2)).toNat < 6; omega, by show (R (29 + 5 * p + 3)).toNat < 6; omega⟩
