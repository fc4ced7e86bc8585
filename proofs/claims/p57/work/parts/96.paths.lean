/-! longest paths: rounds of raising, and the least heights -/
abbrev HT : Type := (Nat → Int) × Int
def riM (s : HT) (x : Nat) (v : Int) : HT := if s.1 x < v then (upf s.1 x v, 1) else s
def alM (K : Int) (F S : Nat) (g sd : Int) (s : HT) : HT := if K = 60 then riM s S (s.1 F + g) else if K = 61 then riM (riM s S (s.1 F + g)) F ((riM s S (s.1 F + g)).1 S - g) else if sd = 1 then riM s S (s.1 F + g) else if sd = 2 then riM s F (s.1 S + g) else s
def onM (c : CN) (sd : Nat → Int) : Nat → Nat → HT → HT
  | 0, _, s => s
  | r + 1, p, s => onM c sd r (p + 1) (alM (c p).1 (c p).2.1 (c p).2.2.1 (c p).2.2.2 (sd p) s)
def clM (c : CN) (sd : Nat → Int) (n : Nat) : Nat → (Nat → Int) → HT
  | 0, f => (f, 1)
  | k + 1, f => if (onM c sd n 0 (f, 0)).2 = 0 then (onM c sd n 0 (f, 0)) else clM c sd n k (onM c sd n 0 (f, 0)).1
/-- a constraint's ways, as they bind heights -/
def edg (K : Int) (F S : Nat) (g sd : Int) (p : Nat → Int) : Prop := (K = 60 → p F + g ≤ p S) ∧ (K = 61 → p F + g = p S) ∧ (K ≠ 60 → K ≠ 61 → (sd = 1 → p F + g ≤ p S) ∧ (sd = 2 → p S + g ≤ p F))
def satM (c : CN) (sd : Nat → Int) (n : Nat) (p : Nat → Int) : Prop := ∀ k, k < n → edg (c k).1 (c k).2.1 (c k).2.2.1 (c k).2.2.2 (sd k) p
def leF (f p : Nat → Int) : Prop := ∀ k, f k ≤ p k
theorem leF.refl (f : Nat → Int) : leF f f := fun _ => Int.le_refl _
theorem leF.trans {f g h : Nat → Int} (a : leF f g) (b : leF g h) : leF f h := fun k => Int.le_trans (a k) (b k)
/-- raised or not: what a raising does -/
def rsd (s t : HT) : Prop := leF s.1 t.1 ∧ (s.2 = 0 ∨ s.2 = 1 → t.2 = 0 ∨ t.2 = 1) ∧ (s.2 = 1 → t.2 = 1) ∧ (t.2 = 0 → t = s) ∧ (t.2 = 1 → s.2 = 0 → ∃ k, k < 6 ∧ s.1 k < t.1 k)
theorem rsd.refl (s : HT) : rsd s s := ⟨leF.refl _, fun h => h, fun h => h, fun _ => rfl, fun h1 h2 => by omega⟩
theorem rsd.trans {s t u : HT} (h : rsd s t) (h2 : rsd t u) (hz : s.2 = 0 ∨ s.2 = 1) : rsd s u := by
  refine ⟨h.1.trans h2.1, fun q => h2.2.1 (h.2.1 q), fun q => h2.2.2.1 (h.2.2.1 q), fun q => ?_, fun q1 q2 => ?_⟩
  · have e := h2.2.2.2.1 q
    rw [e] at q ⊢
    exact h.2.2.2.1 q
  · rcases h.2.1 hz with e | e
    · obtain ⟨k, k6, hk⟩ := h2.2.2.2.2 q1 e
      have e3 := h.2.2.2.1 e
      rw [e3] at hk
      exact ⟨k, k6, hk⟩
    · obtain ⟨k, k6, hk⟩ := h.2.2.2.2 e q2
      exact ⟨k, k6, by have := h2.1 k; omega⟩
theorem riM_r (s : HT) {x : Nat} (v : Int) (hx : x < 6) (hz : s.2 = 0 ∨ s.2 = 1) : rsd s (riM s x v) := by
  unfold riM
  by_cases h : s.1 x < v
  · rw [if_pos h]
    refine ⟨fun k => ?_, fun _ => Or.inr rfl, fun _ => rfl, fun q => by (have q : (1 : Int) = 0 := q; omega), fun _ _ => ⟨x, hx, ?_⟩⟩
    · show s.1 k ≤ upf s.1 x v k
      unfold upf
      split
      · rename_i e; rw [e]; omega
      · omega
    · show s.1 x < upf s.1 x v x
      rw [upf_same]
      exact h
  · rw [if_neg h]
    exact rsd.refl s
theorem alM_r (K : Int) {F S : Nat} (g sd : Int) (s : HT) (hF : F < 6) (hS : S < 6) (hz : s.2 = 0 ∨ s.2 = 1) : rsd s (alM K F S g sd s) := by
  have h1 := riM_r s (s.1 F + g) hS hz
  unfold alM
  split
  · exact h1
  · split
    · exact h1.trans (riM_r _ _ hF (h1.2.1 hz)) hz
    · split
      · exact h1
      · split
        · exact riM_r s _ hF hz
        · exact rsd.refl s
theorem onM_r {c : CN} {sd : Nat → Int} {n : Nat} (hc : ∀ p, p < n → (c p).2.1 < 6 ∧ (c p).2.2.1 < 6) : ∀ (r p : Nat) (s : HT), p + r ≤ n → (s.2 = 0 ∨ s.2 = 1) → rsd s (onM c sd r p s)
  | 0, _, s, _, _ => rsd.refl s
  | r + 1, p, s, hn, hz => by
    have h1 := alM_r (c p).1 (c p).2.2.2 (sd p) s (hc p (by omega)).1 (hc p (by omega)).2 hz
    exact h1.trans (onM_r hc r (p + 1) _ (by omega) (h1.2.1 hz)) hz
/-- below every choice that is met -/
theorem riM_le {s : HT} {x : Nat} {v : Int} {p : Nat → Int} (h : leF s.1 p) (hv : v ≤ p x) : leF (riM s x v).1 p := by
  unfold riM
  split
  · intro k
    show upf s.1 x v k ≤ p k
    unfold upf
    split
    · rename_i e; rw [e]; exact hv
    · exact h k
  · exact h
theorem alM_le {K : Int} {F S : Nat} {g sd : Int} {s : HT} {p : Nat → Int} (h : leF s.1 p) (he : edg K F S g sd p) : leF (alM K F S g sd s).1 p := by
  obtain ⟨e1, e2, e3⟩ := he
  have hF := h F
  have hS := h S
  unfold alM
  split
  · rename_i k1
    exact riM_le h (by have := e1 k1; omega)
  · split
    · rename_i k1 k2
      have q := e2 k2
      have a : leF (riM s S (s.1 F + g)).1 p := riM_le h (by omega)
      exact riM_le a (by have := a S; omega)
    · rename_i k1 k2
      obtain ⟨e4, e5⟩ := e3 k1 k2
      split
      · rename_i k3
        exact riM_le h (by have := e4 k3; omega)
      · split
        · rename_i k4
          exact riM_le h (by have := e5 k4; omega)
        · exact h
theorem onM_le {c : CN} {sd : Nat → Int} {n : Nat} {p : Nat → Int} (hp : satM c sd n p) : ∀ (r k : Nat) (s : HT), k + r ≤ n → leF s.1 p → leF (onM c sd r k s).1 p
  | 0, _, _, _, h => h
  | r + 1, k, s, hn, h => onM_le hp r (k + 1) _ (by omega) (alM_le h (hp k (by omega)))
/-- what a round reaches -/
theorem riM_ge (s : HT) (x : Nat) (v : Int) : v ≤ (riM s x v).1 x := by
  unfold riM
  split
  · show v ≤ upf s.1 x v x
    rw [upf_same]; omega
  · rename_i h
    omega
/-- the ways of a constraint: from, to, by -/
def way (K : Int) (F S : Nat) (g sd : Int) (e d : Nat) (w : Int) : Prop := ((K = 60 ∨ K = 61 ∨ (K ≠ 60 ∧ K ≠ 61 ∧ sd = 1)) ∧ e = F ∧ d = S ∧ w = g) ∨ (K = 61 ∧ e = S ∧ d = F ∧ w = -g) ∨ (K ≠ 60 ∧ K ≠ 61 ∧ sd = 2 ∧ e = S ∧ d = F ∧ w = g)
theorem edg_way {K : Int} {F S : Nat} {g sd : Int} {p : Nat → Int} : edg K F S g sd p ↔ ∀ e d w, way K F S g sd e d w → p e + w ≤ p d := by
  unfold edg way
  refine ⟨fun h e d w hw => ?_, fun h => ⟨fun k => h F S g (Or.inl ⟨Or.inl k, rfl, rfl, rfl⟩), fun k => ?_, fun k1 k2 => ⟨fun k3 => h F S g (Or.inl ⟨Or.inr (Or.inr ⟨k1, k2, k3⟩), rfl, rfl, rfl⟩), fun k3 => h S F g (Or.inr (Or.inr ⟨k1, k2, k3, rfl, rfl, rfl⟩))⟩⟩⟩
  · obtain ⟨h1, h2, h3⟩ := h
    rcases hw with ⟨k, rfl, rfl, rfl⟩ | ⟨k, rfl, rfl, rfl⟩ | ⟨k1, k2, k3, rfl, rfl, rfl⟩
    · rcases k with k | k | ⟨k1, k2, k3⟩
      · exact h1 k
      · have := h2 k; omega
      · exact (h3 k1 k2).1 k3
    · have := h2 k; omega
    · exact (h3 k1 k2).2 k3
  · have a := h F S g (Or.inl ⟨Or.inr (Or.inl k), rfl, rfl, rfl⟩)
    have b := h S F (-g) (Or.inr (Or.inl ⟨k, rfl, rfl, rfl⟩))
    omega
theorem alM_ge {K : Int} {F S : Nat} {g sd : Int} {s : HT} {e d : Nat} {w : Int} (hF : F < 6) (hS : S < 6) (hz : s.2 = 0 ∨ s.2 = 1) (hw : way K F S g sd e d w) : s.1 e + w ≤ (alM K F S g sd s).1 d := by
  unfold alM
  rcases hw with ⟨k, rfl, rfl, rfl⟩ | ⟨k, rfl, rfl, rfl⟩ | ⟨k1, k2, k3, rfl, rfl, rfl⟩
  · rcases k with k | k | ⟨k1, k2, k3⟩
    · rw [if_pos k]; exact riM_ge _ _ _
    · have h1 := riM_r s (s.1 e + w) hS hz
      have h2 := riM_r (riM s d (s.1 e + w)) ((riM s d (s.1 e + w)).1 d - w) hF (h1.2.1 hz)
      rw [if_neg (by omega), if_pos k]
      have a := riM_ge s d (s.1 e + w)
      have b := h2.1 d
      omega
    · rw [if_neg k1, if_neg k2, if_pos k3]; exact riM_ge _ _ _
  · rw [if_neg (by omega), if_pos k]
    have h1 := riM_r s (s.1 d + g) hS hz
    have a := riM_ge (riM s e (s.1 d + g)) d ((riM s e (s.1 d + g)).1 e - g)
    have b := h1.1 e
    omega
  · rw [if_neg k1, if_neg k2, if_neg (by omega), if_pos k3]; exact riM_ge _ _ _
theorem onM_ge {c : CN} {sd : Nat → Int} {n : Nat} (hc : ∀ p, p < n → (c p).2.1 < 6 ∧ (c p).2.2.1 < 6) : ∀ (r p : Nat) (s : HT), p + r ≤ n → (s.2 = 0 ∨ s.2 = 1) → ∀ k, p ≤ k → k < p + r → ∀ e d w, way (c k).1 (c k).2.1 (c k).2.2.1 (c k).2.2.2 (sd k) e d w → s.1 e + w ≤ (onM c sd r p s).1 d
  | 0, _, _, _, _, _, h1, h2, _, _, _, _ => by omega
  | r + 1, p, s, hn, hz, k, h1, h2, e, d, w, hw => by
    have q := alM_r (c p).1 (c p).2.2.2 (sd p) s (hc p (by omega)).1 (hc p (by omega)).2 hz
    by_cases hk : k = p
    · subst hk
      have a := alM_ge (hc k (by omega)).1 (hc k (by omega)).2 hz hw
      have b := (onM_r (sd := sd) hc r (k + 1) (alM (c k).1 (c k).2.1 (c k).2.2.1 (c k).2.2.2 (sd k) s) (by omega) (q.2.1 hz)).1 d
      exact Int.le_trans a b
    · have a := onM_ge hc r (p + 1) (alM (c p).1 (c p).2.1 (c p).2.2.1 (c p).2.2.2 (sd p) s) (by omega) (q.2.1 hz) k (by omega) (by omega) e d w hw
      have b := q.1 e
      exact Int.le_trans (by omega) a
/-- a round that raises nothing: all ways are kept -/
theorem onM_sat {c : CN} {sd : Nat → Int} {n : Nat} {f : Nat → Int} (hc : ∀ p, p < n → (c p).2.1 < 6 ∧ (c p).2.2.1 < 6) (h : (onM c sd n 0 (f, 0)).2 = 0) : (onM c sd n 0 (f, 0)).1 = f ∧ satM c sd n f := by
  have e := (onM_r (sd := sd) hc n 0 (f, 0) (by omega) (Or.inl rfl)).2.2.2.1 h
  refine ⟨by rw [e], fun k hk => edg_way.mpr (fun a b w hw => ?_)⟩
  have q := onM_ge (sd := sd) hc n 0 (f, 0) (by omega) (Or.inl rfl) k (by omega) (by omega) a b w hw
  rw [e] at q
  exact q
def least (c : CN) (sd : Nat → Int) (n : Nat) (f L : Nat → Int) : Prop := satM c sd n L ∧ leF f L ∧ ∀ p, satM c sd n p → leF f p → leF L p
theorem least_ex {c : CN} {sd : Nat → Int} {n : Nat} (hc : ∀ p, p < n → (c p).2.1 < 6 ∧ (c p).2.2.1 < 6) {p : Nat → Int} (hp : satM c sd n p) : ∀ (m : Nat) (f : Nat → Int), (sm (fun k => p k - f k) 6).toNat = m → leF f p → ∃ L, least c sd n f L := by
  intro m
  induction m using Nat.strongRecOn with
  | ind m ih =>
    intro f hm hf
    have hr := onM_r (sd := sd) hc n 0 (f, 0) (by omega) (Or.inl rfl)
    rcases hr.2.1 (Or.inl rfl) with h | h
    · exact ⟨f, (onM_sat hc h).2, leF.refl f, fun q _ h2 => h2⟩
    · have hle := onM_le hp n 0 (f, 0) (by omega) hf
      obtain ⟨k, k6, hk⟩ := hr.2.2.2.2 h rfl
      have hlt : (sm (fun k => p k - (onM c sd n 0 (f, 0)).1 k) 6).toNat < m := by
        have e1 : sm (fun k => p k - (onM c sd n 0 (f, 0)).1 k) 6 = sm p 6 - sm (onM c sd n 0 (f, 0)).1 6 := sm_sub 6
        have e2 : sm (fun k => p k - f k) 6 = sm p 6 - sm f 6 := sm_sub 6
        have b1 := sm_bd (f := fun k => p k - (onM c sd n 0 (f, 0)).1 k) (a := 0) (b := p 0 - f 0 + (p 1 - f 1) + (p 2 - f 2) + (p 3 - f 3) + (p 4 - f 4) + (p 5 - f 5)) 6 (fun z hz => by
          have q0 := hle z
          have q1 := hr.1 z
          have q1 : f z ≤ (onM c sd n 0 (f, 0)).1 z := q1
          have a0 := hf 0; have a1 := hf 1; have a2 := hf 2; have a3 := hf 3; have a4 := hf 4; have a5 := hf 5
          have : z = 0 ∨ z = 1 ∨ z = 2 ∨ z = 3 ∨ z = 4 ∨ z = 5 := by omega
          rcases this with e | e | e | e | e | e <;> subst e <;> omega)
        have s1 : ∀ g : Nat → Int, sm g 6 = g 0 + g 1 + g 2 + g 3 + g 4 + g 5 := fun g => by simp [sm]
        have zz : ∀ j, f j ≤ (onM c sd n 0 (f, 0)).1 j := hr.1
        have z0 := zz 0; have z1 := zz 1; have z2 := zz 2; have z3 := zz 3; have z4 := zz 4; have z5 := zz 5
        have hk : f k < (onM c sd n 0 (f, 0)).1 k := hk
        have : k = 0 ∨ k = 1 ∨ k = 2 ∨ k = 3 ∨ k = 4 ∨ k = 5 := by omega
        have d : sm f 6 < sm (onM c sd n 0 (f, 0)).1 6 := by
          rw [s1, s1]
          rcases this with e | e | e | e | e | e <;> subst e <;> omega
        omega
      obtain ⟨L, l1, l2, l3⟩ := ih _ hlt (onM c sd n 0 (f, 0)).1 rfl hle
      exact ⟨L, l1, hr.1.trans l2, fun q q1 q2 => l3 q q1 (onM_le q1 n 0 (f, 0) (by omega) q2)⟩

/-- a round brings one more place to its least height -/
def low1 (f L : Nat → Int) (n : Nat) : Int := sm (fun d => if f d < L d then 1 else 0) n
theorem low1_0 {f L : Nat → Int} : ∀ n : Nat, 0 ≤ low1 f L n ∧ (low1 f L n = 0 ↔ ∀ d, d < n → ¬ f d < L d)
  | 0 => ⟨by simp [low1, sm], ⟨fun _ d hd => by omega, fun _ => rfl⟩⟩
  | n + 1 => by
    obtain ⟨a, b⟩ := low1_0 (f := f) (L := L) n
    have e : low1 f L (n + 1) = low1 f L n + (if f n < L n then 1 else 0) := rfl
    rw [e]
    by_cases h : f n < L n
    · rw [if_pos h]
      exact ⟨by omega, ⟨fun q => by omega, fun q => absurd h (q n (by omega))⟩⟩
    · rw [if_neg h]
      refine ⟨by omega, ⟨fun q d hd => ?_, fun q => by have := b.mpr (fun d hd => q d (by omega)); omega⟩⟩
      by_cases e2 : d = n
      · rw [e2]; exact h
      · exact b.mp (by omega) d (by omega)
theorem low1_lt {f g L : Nat → Int} : ∀ n : Nat, (∀ k, f k ≤ g k) → low1 g L n ≤ low1 f L n ∧ ((∃ d, d < n ∧ f d < L d ∧ ¬ g d < L d) → low1 g L n < low1 f L n)
  | 0, _ => ⟨Int.le_refl _, fun ⟨d, hd, _⟩ => by omega⟩
  | n + 1, h => by
    obtain ⟨a, b⟩ := low1_lt (f := f) (g := g) (L := L) n h
    have e1 : low1 f L (n + 1) = low1 f L n + (if f n < L n then 1 else 0) := rfl
    have e2 : low1 g L (n + 1) = low1 g L n + (if g n < L n then 1 else 0) := rfl
    have hn := h n
    rw [e1, e2]
    by_cases h1 : g n < L n
    · have h2 : f n < L n := by omega
      rw [if_pos h1, if_pos h2]
      refine ⟨by omega, fun ⟨d, hd, u, v⟩ => ?_⟩
      by_cases e : d = n
      · subst e; exact absurd h1 v
      · have := b ⟨d, by omega, u, v⟩; omega
    · rw [if_neg h1]
      by_cases h2 : f n < L n
      · rw [if_pos h2]
        exact ⟨by omega, fun _ => by omega⟩
      · rw [if_neg h2]
        refine ⟨by omega, fun ⟨d, hd, u, v⟩ => ?_⟩
        by_cases e : d = n
        · subst e; exact absurd u h2
        · have := b ⟨d, by omega, u, v⟩; omega
theorem low1_le {f L : Nat → Int} : ∀ n : Nat, low1 f L n ≤ n
  | 0 => by simp [low1, sm]
  | n + 1 => by
    have a := low1_le (f := f) (L := L) n
    have e1 : low1 f L (n + 1) = low1 f L n + (if f n < L n then 1 else 0) := rfl
    rw [e1]
    split <;> omega
theorem round_more {c : CN} {sd : Nat → Int} {n D : Nat} {f0 f L : Nat → Int} (hc : ∀ p, p < n → (c p).2.1 < D ∧ (c p).2.2.1 < D) (hD : D ≤ 6) (hL : least c sd n f0 L) (h0 : leF f0 f) (h1 : leF f L) (hne : ∃ d, f d < L d) : ∃ d, d < D ∧ f d < L d ∧ L d ≤ (onM c sd n 0 (f, 0)).1 d := by
  apply Classical.byContradiction
  intro hno
  have hc6 : ∀ p, p < n → (c p).2.1 < 6 ∧ (c p).2.2.1 < 6 := fun p hp => ⟨by have := (hc p hp).1; omega, by have := (hc p hp).2; omega⟩
  have hsat : satM c sd n (fun d => if f d < L d then L d - 1 else L d) := by
    intro k hk
    refine edg_way.mpr (fun e d w hw => ?_)
    have q := edg_way.mp (hL.1 k hk) e d w hw
    have g := onM_ge (sd := sd) hc6 n 0 (f, 0) (by omega) (Or.inl rfl) k (by omega) (by omega) e d w hw
    have g : f e + w ≤ (onM c sd n 0 (f, 0)).1 d := g
    have dD : d < D := by
      rcases hw with ⟨-, -, h, -⟩ | ⟨-, -, h, -⟩ | ⟨-, -, -, -, h, -⟩ <;> rw [h]
      · exact (hc k hk).2
      · exact (hc k hk).1
      · exact (hc k hk).1
    have fe := h1 e
    show (if f e < L e then L e - 1 else L e) + w ≤ (if f d < L d then L d - 1 else L d)
    by_cases hd : f d < L d
    · rw [if_pos hd]
      by_cases he : f e < L e
      · rw [if_pos he]; omega
      · rw [if_neg he]
        have : ¬ L d ≤ (onM c sd n 0 (f, 0)).1 d := fun z => hno ⟨d, dD, hd, z⟩
        omega
    · rw [if_neg hd]
      split <;> omega
  obtain ⟨d, hd⟩ := hne
  have q := hL.2.2 _ hsat (fun k => by
    have a := h0 k
    have b := h1 k
    show f0 k ≤ (if f k < L k then L k - 1 else L k)
    split <;> omega) d
  have q : L d ≤ (if f d < L d then L d - 1 else L d) := q
  rw [if_pos hd] at q
  omega
/-- with one round more than places, the least heights are reached -/
theorem clM_least {c : CN} {sd : Nat → Int} {n D : Nat} {f0 L : Nat → Int} (hc : ∀ p, p < n → (c p).2.1 < D ∧ (c p).2.2.1 < D) (hD : D ≤ 6) (hL : least c sd n f0 L) : ∀ (k : Nat) (f : Nat → Int), leF f0 f → leF f L → low1 f L D < (k : Int) → clM c sd n k f = (L, 0)
  | 0, f, _, _, h => by have := (low1_0 (f := f) (L := L) D).1; omega
  | k + 1, f, h0, h1, h => by
    have hc6 : ∀ p, p < n → (c p).2.1 < 6 ∧ (c p).2.2.1 < 6 := fun p hp => ⟨by have := (hc p hp).1; omega, by have := (hc p hp).2; omega⟩
    have hr := onM_r (sd := sd) hc6 n 0 (f, 0) (by omega) (Or.inl rfl)
    have hle := onM_le hL.1 n 0 (f, 0) (by omega) h1
    rw [clM]
    by_cases hz : (onM c sd n 0 (f, 0)).2 = 0
    · rw [if_pos hz]
      obtain ⟨e1, e2⟩ := onM_sat hc6 hz
      have : f = L := funext fun k => Int.le_antisymm (h1 k) (hL.2.2 f e2 h0 k)
      refine Prod.ext (by rw [e1, this]) hz
    · rw [if_neg hz]
      have hne : ∃ d, f d < L d := by
        have h1z : (onM c sd n 0 (f, 0)).2 = 1 := by
          rcases hr.2.1 (Or.inl rfl) with h | h
          · exact absurd h hz
          · exact h
        obtain ⟨d, -, hd⟩ := hr.2.2.2.2 h1z rfl
        have hd : f d < (onM c sd n 0 (f, 0)).1 d := hd
        exact ⟨d, by have := hle d; omega⟩
      obtain ⟨d, dD, d1, d2⟩ := round_more hc hD hL h0 h1 hne
      have lt := (low1_lt (f := f) (g := (onM c sd n 0 (f, 0)).1) (L := L) D hr.1).2 ⟨d, dD, d1, by omega⟩
      exact clM_least hc hD hL k _ (h0.trans hr.1) hle (by omega)
/-- and what is reached is least -/
theorem clM_ok {c : CN} {sd : Nat → Int} {n : Nat} {f0 : Nat → Int} (hc : ∀ p, p < n → (c p).2.1 < 6 ∧ (c p).2.2.1 < 6) : ∀ (k : Nat) (f : Nat → Int), leF f0 f → (∀ p, satM c sd n p → leF f0 p → leF f p) → (clM c sd n k f).2 = 0 → least c sd n f0 (clM c sd n k f).1
  | 0, f, _, _, h => by have h : (1 : Int) = 0 := h; omega
  | k + 1, f, h0, h1, h => by
    have hr := onM_r (sd := sd) hc n 0 (f, 0) (by omega) (Or.inl rfl)
    rw [clM] at h ⊢
    by_cases hz : (onM c sd n 0 (f, 0)).2 = 0
    · rw [if_pos hz] at h ⊢
      obtain ⟨e1, e2⟩ := onM_sat hc hz
      rw [e1]
      exact ⟨e2, h0, h1⟩
    · rw [if_neg hz] at h ⊢
      exact clM_ok hc k _ (h0.trans hr.1) (fun p hp hf => onM_le hp n 0 (f, 0) (by omega) (h1 p hp hf)) h
theorem clM_iff {c : CN} {sd : Nat → Int} {n D : Nat} {f : Nat → Int} (hc : ∀ p, p < n → (c p).2.1 < D ∧ (c p).2.2.1 < D) (hD : D ≤ 6) : ((clM c sd n (D + 1) f).2 = 0 → least c sd n f (clM c sd n (D + 1) f).1) ∧ ((clM c sd n (D + 1) f).2 ≠ 0 → ∀ p, satM c sd n p → ¬ leF f p) := by
  have hc6 : ∀ p, p < n → (c p).2.1 < 6 ∧ (c p).2.2.1 < 6 := fun p hp => ⟨by have := (hc p hp).1; omega, by have := (hc p hp).2; omega⟩
  refine ⟨clM_ok hc6 _ f (leF.refl f) (fun p _ h => h), fun hz p hp hf => ?_⟩
  obtain ⟨L, hL⟩ := least_ex hc6 hp _ f rfl hf
  have a := low1_le (f := f) (L := L) D
  have e := clM_least hc hD hL (D + 1) f (leF.refl f) hL.2.1 (by omega)
  rw [e] at hz
  exact hz rfl
