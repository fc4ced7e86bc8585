/-! settling without the kind apart finds the least heights -/
def inP (s : PT) (p : Nat → Int) : Prop := ∀ k, k < 6 → s.1 k ≤ p k ∧ p k ≤ s.2.1 k
theorem rsM_in {s : PT} {p : Nat → Int} {x : Nat} {v : Int} (h : inP s p) (hv : v ≤ p x) : inP (rsM s x v) p := by
  intro k hk
  have a := h k hk
  unfold rsM
  split
  · show upf s.1 x v k ≤ p k ∧ p k ≤ s.2.1 k
    unfold upf
    split
    · rename_i e; rw [e] at a ⊢; exact ⟨hv, a.2⟩
    · exact a
  · exact a
theorem skM_in {s : PT} {p : Nat → Int} {x : Nat} {v : Int} (h : inP s p) (hv : p x ≤ v) : inP (skM s x v) p := by
  intro k hk
  have a := h k hk
  unfold skM
  split
  · show s.1 k ≤ p k ∧ p k ≤ upf s.2.1 x v k
    unfold upf
    split
    · rename_i e; rw [e] at a ⊢; exact ⟨a.1, hv⟩
    · exact a
  · exact a
theorem lwM_in {s : PT} {p : Nat → Int} {F S : Nat} {g : Int} (hF : F < 6) (hS : S < 6) (h : inP s p) (e : p F + g ≤ p S) : inP (lwM F S g s) p := by
  have a := h F hF
  have h1 : inP (rsM s S (s.1 F + g)) p := rsM_in h (by omega)
  have b := h1 S hS
  exact skM_in h1 (by omega)
theorem exM_in {s : PT} {p : Nat → Int} {F S : Nat} {g : Int} (hF : F < 6) (hS : S < 6) (h : inP s p) (e : p F + g = p S) : inP (exM F S g s) p := by
  have a := h S hS
  have h1 : inP (rsM s F (s.1 S - g)) p := rsM_in h (by omega)
  have b := h1 F hF
  exact skM_in h1 (by omega)
theorem sp1_in {s : PT} {p : Nat → Int} {K : Int} {F S : Nat} {g sd : Int} (hF : F < 6) (hS : S < 6) (hK : K = 60 ∨ K = 61 ∨ K = 35) (h35 : K ≠ 35) (h : inP s p) (e : edg K F S g sd p) : inP (sp1 K F S g s) p := by
  obtain ⟨e1, e2, -⟩ := e
  unfold sp1
  rw [if_neg h35]
  split
  · rename_i k
    have q := e2 k
    exact exM_in hF hS (lwM_in hF hS h (by omega)) q
  · exact lwM_in hF hS h (e1 (by omega))
def kOK (c : CN) (n : Nat) : Prop := ∀ p, p < n → ((c p).2.1 < 6 ∧ (c p).2.2.1 < 6) ∧ ((c p).1 = 60 ∨ (c p).1 = 61 ∨ (c p).1 = 35)
theorem kOK.c6 {c : CN} {n : Nat} (h : kOK c n) : ∀ p, p < n → (c p).2.1 < 6 ∧ (c p).2.2.1 < 6 := fun p hp => (h p hp).1
def sd0 : Nat → Int := fun _ => 0
theorem paM_in {c : CN} {n : Nat} (hc : kOK c n) {p : Nat → Int} (hp : satM c sd0 n p) : ∀ (r k : Nat) (s : PT), k + r ≤ n → inP s p → (paM c 0 r k s).2 = none ∧ inP (paM c 0 r k s).1 p
  | 0, _, _, _, h => ⟨rfl, h⟩
  | r + 1, k, s, hn, h => by
    obtain ⟨⟨f1, f2⟩, hk⟩ := hc k (by omega)
    by_cases h1 : (c k).1 = 35 ∧ (0 : Int) = 0
    · rw [paM_skip h1]
      exact paM_in hc hp r (k + 1) s (by omega) h
    · have a := sp1_in f1 f2 hk (fun z => h1 ⟨z, rfl⟩) h (hp k (by omega))
      have t1 := a _ f1
      have t2 := a _ f2
      rw [paM_step h1 rfl (by omega)]
      exact paM_in hc hp r (k + 1) _ (by omega) a
theorem stM_in {c : CN} {n : Nat} (hc : kOK c n) {p : Nat → Int} (hp : satM c sd0 n p) : ∀ (k : Nat) (s : PT) (i : Int), inP s p → (stM c 0 n k s i).1 = none ∧ inP (stM c 0 n k s i).2.1 p
  | 0, _, _, h => ⟨rfl, h⟩
  | k + 1, s, i, h => by
    obtain ⟨a, b⟩ := paM_in hc hp n 0 s (by omega) h
    rw [stM, if_pos a]
    split
    · exact ⟨rfl, b⟩
    · exact stM_in hc hp k _ _ b
theorem paM_fix {c : CN} {wa : Int} {n : Nat} (hc : ∀ p, p < n → (c p).2.1 < 6 ∧ (c p).2.2.1 < 6) : ∀ (r k : Nat) (s : PT), k + r ≤ n → okB s → (paM c wa r k s).2 = none → (paM c wa r k s).1.2.2 = s.2.2 → ∀ j, k ≤ j → j < k + r → ¬ ((c j).1 = 35 ∧ wa = 0) → sp1 (c j).1 (c j).2.1 (c j).2.2.1 (c j).2.2.2 s = s
  | 0, _, _, _, _, _, _, j, h1, h2, _ => by omega
  | r + 1, k, s, hn, ho, e, ec, j, h1, h2, hj => by
    by_cases hs : (c k).1 = 35 ∧ wa = 0
    · rw [paM_skip hs] at e ec
      by_cases ek : j = k
      · subst ek; exact absurd hs hj
      · exact paM_fix hc r (k + 1) s (by omega) ho e ec j (by omega) (by omega) hj
    · have n1 := sp1_n (c k).1 (c k).2.2.2 s (hc k (by omega)).1 (hc k (by omega)).2
      by_cases ht : (sp1 (c k).1 (c k).2.1 (c k).2.2.1 (c k).2.2.2 s).2.1 (c k).2.1 < (sp1 (c k).1 (c k).2.1 (c k).2.2.1 (c k).2.2.2 s).1 (c k).2.1 ∨ (sp1 (c k).1 (c k).2.1 (c k).2.2.1 (c k).2.2.2 s).2.1 (c k).2.2.1 < (sp1 (c k).1 (c k).2.1 (c k).2.2.1 (c k).2.2.2 s).1 (c k).2.2.1
      · rw [paM_conf hs rfl ht] at e
        cases e
      · rw [paM_step hs rfl ht] at e ec
        have o1 := okB_step ho n1 (sp1_s _ _ _ _ _) (fun z => ht (Or.inl z)) (fun z => ht (Or.inr z))
        have n2 := (paM_ok (wa := wa) hc r (k + 1) _ (by omega) o1).1
        have e1 : sp1 (c k).1 (c k).2.1 (c k).2.2.1 (c k).2.2.2 s = s := n1.2.2.2 (by have := n1.2.1; have := n2.2.1; omega)
        by_cases ek : j = k
        · subst ek; exact e1
        · rw [e1] at e ec
          exact paM_fix hc r (k + 1) s (by omega) ho e ec j (by omega) (by omega) hj
theorem lwM_fx {s : PT} {F S : Nat} {g : Int} (hF : F < 6) (hS : S < 6) (h : (lwM F S g s).2.2 = s.2.2) : s.1 F + g ≤ s.1 S := by
  have a := rsM_n s (s.1 F + g) hS
  have b := skM_n (rsM s S (s.1 F + g)) ((rsM s S (s.1 F + g)).2.1 S - g) hF
  have c1 := a.2.1
  have c2 := b.2.1
  have h : (skM (rsM s S (s.1 F + g)) F ((rsM s S (s.1 F + g)).2.1 S - g)).2.2 = s.2.2 := h
  apply Classical.byContradiction
  intro hh
  have e : rsM s S (s.1 F + g) = (upf s.1 S (s.1 F + g), s.2.1, s.2.2 + 1) := if_pos (by omega)
  have e2 : (rsM s S (s.1 F + g)).2.2 = s.2.2 + 1 := by rw [e]
  omega
theorem exM_fx {s : PT} {F S : Nat} {g : Int} (hF : F < 6) (hS : S < 6) (h : (exM F S g s).2.2 = s.2.2) : s.1 S - g ≤ s.1 F := by
  have a := rsM_n s (s.1 S - g) hF
  have b := skM_n (rsM s F (s.1 S - g)) ((rsM s F (s.1 S - g)).2.1 F + g) hS
  have c1 := a.2.1
  have c2 := b.2.1
  have h : (skM (rsM s F (s.1 S - g)) S ((rsM s F (s.1 S - g)).2.1 F + g)).2.2 = s.2.2 := h
  apply Classical.byContradiction
  intro hh
  have e : rsM s F (s.1 S - g) = (upf s.1 F (s.1 S - g), s.2.1, s.2.2 + 1) := if_pos (by omega)
  have e2 : (rsM s F (s.1 S - g)).2.2 = s.2.2 + 1 := by rw [e]
  omega
theorem sp1_fx {s : PT} {K : Int} {F S : Nat} {g : Int} (hF : F < 6) (hS : S < 6) (h35 : K ≠ 35) (h : sp1 K F S g s = s) : edg K F S g 0 s.1 := by
  have hl : nrw s (lwM F S g s) := (rsM_n s _ hS).trans (skM_n _ _ hF)
  have he : nrw (lwM F S g s) (exM F S g (lwM F S g s)) := (rsM_n _ _ hF).trans (skM_n _ _ hS)
  unfold sp1 at h
  rw [if_neg h35] at h
  refine ⟨fun k => ?_, fun k => ?_, fun _ _ => ⟨fun z => by omega, fun z => by omega⟩⟩
  · rw [if_neg (by omega)] at h
    exact lwM_fx hF hS (by rw [h])
  · rw [if_pos k] at h
    have e1 : lwM F S g s = s := hl.2.2.2 (by have := hl.2.1; have := he.2.1; have z : (exM F S g (lwM F S g s)).2.2 = s.2.2 := by rw [h]
                                              omega)
    rw [e1] at h
    have a := lwM_fx (s := s) (g := g) hF hS (by rw [e1])
    have b := exM_fx (s := s) (g := g) hF hS (by rw [h])
    omega
theorem paM_sat {c : CN} {n : Nat} (hc : kOK c n) {s : PT} (ho : okB s) (e : (paM c 0 n 0 s).2 = none) (ec : (paM c 0 n 0 s).1.2.2 = s.2.2) : satM c sd0 n s.1 := by
  intro k hk
  obtain ⟨⟨f1, f2⟩, hK⟩ := hc k hk
  by_cases h35 : (c k).1 = 35
  · exact ⟨fun z => by omega, fun z => by omega, fun _ _ => ⟨fun z => by (have z : (0 : Int) = 1 := z; omega), fun z => by (have z : (0 : Int) = 2 := z; omega)⟩⟩
  · exact sp1_fx f1 f2 h35 (paM_fix hc.c6 n 0 s (by omega) ho e ec k (by omega) (by omega) (fun z => h35 z.1))
theorem stM_sat {c : CN} {n : Nat} (hc : kOK c n) : ∀ (k : Nat) (s : PT) (i : Int), okB s → wsm s < (k : Int) → (stM c 0 n k s i).1 = none → satM c sd0 n (stM c 0 n k s i).2.1.1
  | 0, s, _, ho, hw, _ => by have := okB_w ho; omega
  | k + 1, s, i, ho, hw, e => by
    obtain ⟨p1, p2, -⟩ := paM_ok (wa := 0) hc.c6 n 0 s (by omega) ho
    rw [stM] at e ⊢
    by_cases h1 : (paM c 0 n 0 s).2 = none
    · rw [if_pos h1] at e ⊢
      by_cases h2 : (paM c 0 n 0 s).1.2.2 = s.2.2
      · rw [if_pos h2]
        have es := p1.2.2.2 h2
        rw [es]
        exact paM_sat hc ho h1 h2
      · rw [if_neg h2] at e ⊢
        exact stM_sat hc k _ _ (p2 h1) (by have := p1.2.2.1; have := p1.2.1; omega) e
    · rw [if_neg h1] at e
      exact absurd e h1
/-- settling without the kind apart, and the least heights -/
theorem settle_least {c : CN} {n : Nat} (hc : kOK c n) {s : PT} (ho : okB s) (i : Int) : ((stM c 0 n 1000 s i).1 = none → ∃ L, least c sd0 n s.1 L ∧ ∀ k, k < 6 → L k = (stM c 0 n 1000 s i).2.1.1 k ∧ L k ≤ s.2.1 k) ∧ ((stM c 0 n 1000 s i).1 ≠ none → ∀ p, satM c sd0 n p → ¬ inP s p) := by
  refine ⟨fun e => ?_, fun e p hp hi => e (stM_in hc hp 1000 s i hi).1⟩
  have w := okB_w ho
  have hs := stM_sat hc 1000 s i ho (by omega) e
  obtain ⟨o2, nr, -, -⟩ := stM_ok (wa := 0) hc.c6 1000 s i ho e
  have h0 : leF s.1 (stM c 0 n 1000 s i).2.1.1 := fun k => (nr.1 k).1
  obtain ⟨L, hL⟩ := least_ex hc.c6 hs _ s.1 rfl h0
  have hle := hL.2.2 _ hs h0
  have hin : inP s L := fun k hk => ⟨hL.2.1 k, by have a := hle k; have b := (o2 k hk).2.1; have d := (nr.1 k).2; omega⟩
  refine ⟨L, hL, fun k hk => ⟨Int.le_antisymm (hle k) ((stM_in hc hL.1 1000 s i hin).2 k hk).1, (hin k hk).2⟩⟩
