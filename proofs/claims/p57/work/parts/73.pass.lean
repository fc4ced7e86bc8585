/-! passes: lows, highs, the number of changes -/
abbrev PT : Type := (Nat → Int) × (Nat → Int) × Int
def upf (f : Nat → Int) (k : Nat) (v : Int) : Nat → Int := fun j => if j = k then v else f j
def rsM (s : PT) (x : Nat) (v : Int) : PT := if s.1 x < v then (upf s.1 x v, s.2.1, s.2.2 + 1) else s
def skM (s : PT) (x : Nat) (v : Int) : PT := if v < s.2.1 x then (s.1, upf s.2.1 x v, s.2.2 + 1) else s
def loM (s : PT) (x : Nat) (u v : Int) : PT := if u < s.1 x ∧ s.1 x < v then (upf s.1 x v, s.2.1, s.2.2 + 1) else s
def hiM (s : PT) (x : Nat) (u v : Int) : PT := if u < s.2.1 x ∧ s.2.1 x < v then (s.1, upf s.2.1 x u, s.2.2 + 1) else s
def koM (s : PT) (f x : Nat) (g : Int) : PT := if s.1 f = s.2.1 f then hiM (loM s x (s.1 f - g) (s.1 f + g)) x (s.1 f - g) (s.1 f + g) else s
def lwM (F S : Nat) (g : Int) (s : PT) : PT := skM (rsM s S (s.1 F + g)) F ((rsM s S (s.1 F + g)).2.1 S - g)
def exM (F S : Nat) (g : Int) (s : PT) : PT := skM (rsM s F (s.1 S - g)) S ((rsM s F (s.1 S - g)).2.1 F + g)
def sp1 (K : Int) (F S : Nat) (g : Int) (s : PT) : PT := if K = 35 then koM (koM s F S g) S F g else if K = 61 then exM F S g (lwM F S g s) else lwM F S g s
abbrev CN : Type := Nat → Int × Nat × Nat × Int
def torn (s : PT) (x : Nat) : Prop := s.2.1 x < s.1 x
/-- a pass over r constraints from the place p on -/
noncomputable def paM (c : CN) (wa : Int) : Nat → Nat → PT → PT × Option Nat
  | 0, _, s => (s, none)
  | r + 1, p, s => if (c p).1 = 35 ∧ wa = 0 then paM c wa r (p + 1) s else
      if (sp1 (c p).1 (c p).2.1 (c p).2.2.1 (c p).2.2.2 s).2.1 (c p).2.1 < (sp1 (c p).1 (c p).2.1 (c p).2.2.1 (c p).2.2.2 s).1 (c p).2.1 ∨ (sp1 (c p).1 (c p).2.1 (c p).2.2.1 (c p).2.2.2 s).2.1 (c p).2.2.1 < (sp1 (c p).1 (c p).2.1 (c p).2.2.1 (c p).2.2.2 s).1 (c p).2.2.1
      then (sp1 (c p).1 (c p).2.1 (c p).2.2.1 (c p).2.2.2 s, some p) else paM c wa r (p + 1) (sp1 (c p).1 (c p).2.1 (c p).2.2.1 (c p).2.2.2 s)
def okB (s : PT) : Prop := ∀ k, k < 6 → 0 ≤ s.1 k ∧ s.1 k ≤ s.2.1 k ∧ s.2.1 k ≤ 40
/-- narrower: only at places of F and S, and every change takes away a height -/
def wsm (s : PT) : Int := sm (fun k => s.2.1 k - s.1 k) 6
def nrw (s t : PT) : Prop := (∀ k, s.1 k ≤ t.1 k ∧ t.2.1 k ≤ s.2.1 k) ∧ s.2.2 ≤ t.2.2 ∧ t.2.2 + wsm t ≤ s.2.2 + wsm s ∧ (t.2.2 = s.2.2 → t = s)
theorem nrw.refl (s : PT) : nrw s s := ⟨fun k => ⟨by omega, by omega⟩, by omega, by omega, fun _ => rfl⟩
theorem nrw.trans {s t u : PT} (h : nrw s t) (h2 : nrw t u) : nrw s u := ⟨fun k => ⟨by have := (h.1 k).1; have := (h2.1 k).1; omega, by have := (h.1 k).2; have := (h2.1 k).2; omega⟩, by have := h.2.1; have := h2.2.1; omega, by have := h.2.2.1; have := h2.2.2.1; omega, fun e => by
  have a := h.2.1
  have b := h2.2.1
  have e1 : t.2.2 = s.2.2 := by omega
  have e2 : u.2.2 = t.2.2 := by omega
  rw [h2.2.2.2 e2, h.2.2.2 e1]⟩
theorem sm_up {f : Nat → Int} {x : Nat} {v : Int} : ∀ n : Nat, sm (upf f x v) n = if x < n then sm f n + (v - f x) else sm f n
  | 0 => by simp [sm]
  | n + 1 => by
    show sm (upf f x v) n + upf f x v n = _
    rw [sm_up n]
    unfold upf
    show _ = if x < n + 1 then sm f n + f n + (v - f x) else sm f n + f n
    by_cases h : n = x
    · subst h
      rw [if_neg (by omega), if_pos rfl, if_pos (by omega)]
      omega
    · rw [if_neg h]
      by_cases h2 : x < n
      · rw [if_pos h2, if_pos (by omega)]
        omega
      · rw [if_neg h2, if_neg (by omega)]
theorem sm_sub {f g : Nat → Int} : ∀ n : Nat, sm (fun k => f k - g k) n = sm f n - sm g n
  | 0 => rfl
  | n + 1 => by
    show sm (fun k => f k - g k) n + (f n - g n) = sm f n + f n - (sm g n + g n)
    rw [sm_sub n]
    omega
theorem upf_same (f : Nat → Int) (k : Nat) (v : Int) : upf f k v k = v := if_pos rfl
theorem upf_ne (f : Nat → Int) {k j : Nat} (v : Int) (h : j ≠ k) : upf f k v j = f j := if_neg h
theorem nrw_lo {s : PT} {x : Nat} {v : Int} (hx : x < 6) (h : s.1 x < v) : nrw s (upf s.1 x v, s.2.1, s.2.2 + 1) := by
  refine ⟨fun k => ⟨?_, Int.le_refl _⟩, by show s.2.2 ≤ s.2.2 + 1; omega, ?_, fun e => by have e : s.2.2 + 1 = s.2.2 := e; omega⟩
  · show s.1 k ≤ upf s.1 x v k
    unfold upf
    split
    · rename_i e; subst e; omega
    · omega
  · show s.2.2 + 1 + wsm (upf s.1 x v, s.2.1, s.2.2 + 1) ≤ _
    unfold wsm
    rw [sm_sub, sm_sub]
    show s.2.2 + 1 + (sm s.2.1 6 - sm (upf s.1 x v) 6) ≤ _
    rw [sm_up, if_pos hx]
    have : sm (fun k => s.1 k) 6 = sm s.1 6 := rfl
    have : sm (fun k => s.2.1 k) 6 = sm s.2.1 6 := rfl
    omega
theorem nrw_hi {s : PT} {x : Nat} {v : Int} (hx : x < 6) (h : v < s.2.1 x) : nrw s (s.1, upf s.2.1 x v, s.2.2 + 1) := by
  refine ⟨fun k => ⟨Int.le_refl _, ?_⟩, by show s.2.2 ≤ s.2.2 + 1; omega, ?_, fun e => by have e : s.2.2 + 1 = s.2.2 := e; omega⟩
  · show upf s.2.1 x v k ≤ s.2.1 k
    unfold upf
    split
    · rename_i e; subst e; omega
    · omega
  · show s.2.2 + 1 + wsm (s.1, upf s.2.1 x v, s.2.2 + 1) ≤ _
    unfold wsm
    rw [sm_sub, sm_sub]
    show s.2.2 + 1 + (sm (upf s.2.1 x v) 6 - sm s.1 6) ≤ _
    rw [sm_up, if_pos hx]
    have : sm (fun k => s.1 k) 6 = sm s.1 6 := rfl
    have : sm (fun k => s.2.1 k) 6 = sm s.2.1 6 := rfl
    omega
theorem rsM_n (s : PT) {x : Nat} (v : Int) (hx : x < 6) : nrw s (rsM s x v) := by
  unfold rsM
  split
  · exact nrw_lo hx (by assumption)
  · exact nrw.refl s
theorem skM_n (s : PT) {x : Nat} (v : Int) (hx : x < 6) : nrw s (skM s x v) := by
  unfold skM
  split
  · exact nrw_hi hx (by assumption)
  · exact nrw.refl s
theorem loM_n (s : PT) {x : Nat} (u v : Int) (hx : x < 6) : nrw s (loM s x u v) := by
  unfold loM
  split
  · rename_i h; exact nrw_lo hx h.2
  · exact nrw.refl s
theorem hiM_n (s : PT) {x : Nat} (u v : Int) (hx : x < 6) : nrw s (hiM s x u v) := by
  unfold hiM
  split
  · rename_i h; exact nrw_hi hx h.1
  · exact nrw.refl s
theorem koM_n (s : PT) {f x : Nat} (g : Int) (hx : x < 6) : nrw s (koM s f x g) := by
  unfold koM
  split
  · exact (loM_n s _ _ hx).trans (hiM_n _ _ _ hx)
  · exact nrw.refl s
theorem sp1_n (K : Int) {F S : Nat} (g : Int) (s : PT) (hF : F < 6) (hS : S < 6) : nrw s (sp1 K F S g s) := by
  have h1 : nrw s (lwM F S g s) := (rsM_n s _ hS).trans (skM_n _ _ hF)
  unfold sp1
  split
  · exact (koM_n s g hS).trans (koM_n _ g hF)
  · split
    · exact h1.trans ((rsM_n _ _ hF).trans (skM_n _ _ hS))
    · exact h1
/-- what a step leaves alone -/
def sav (s t : PT) (F S : Nat) : Prop := ∀ k, k ≠ F → k ≠ S → t.1 k = s.1 k ∧ t.2.1 k = s.2.1 k
theorem sav.trans {s t u : PT} {F S : Nat} (h : sav s t F S) (h2 : sav t u F S) : sav s u F S := fun k a b => ⟨((h2 k a b).1).trans (h k a b).1, ((h2 k a b).2).trans (h k a b).2⟩
theorem sav.refl (s : PT) (F S : Nat) : sav s s F S := fun _ _ _ => ⟨rfl, rfl⟩
theorem rsM_s (s : PT) {x F S : Nat} (v : Int) (hx : x = F ∨ x = S) : sav s (rsM s x v) F S := by
  unfold rsM
  split
  · exact fun k a b => ⟨upf_ne _ _ (by omega), rfl⟩
  · exact sav.refl s F S
theorem skM_s (s : PT) {x F S : Nat} (v : Int) (hx : x = F ∨ x = S) : sav s (skM s x v) F S := by
  unfold skM
  split
  · exact fun k a b => ⟨rfl, upf_ne _ _ (by omega)⟩
  · exact sav.refl s F S
theorem koM_s (s : PT) {f x F S : Nat} (g : Int) (hx : x = F ∨ x = S) : sav s (koM s f x g) F S := by
  unfold koM
  split
  · refine sav.trans (t := loM s x (s.1 f - g) (s.1 f + g)) ?_ ?_
    · unfold loM
      split
      · exact fun k a b => ⟨upf_ne _ _ (by omega), rfl⟩
      · exact sav.refl s F S
    · unfold hiM
      split
      · exact fun k a b => ⟨rfl, upf_ne _ _ (by omega)⟩
      · exact sav.refl _ F S
  · exact sav.refl s F S
theorem sp1_s (K : Int) (F S : Nat) (g : Int) (s : PT) : sav s (sp1 K F S g s) F S := by
  have h1 : sav s (lwM F S g s) F S := (rsM_s s _ (Or.inr rfl)).trans (skM_s _ _ (Or.inl rfl))
  unfold sp1
  split
  · exact (koM_s s g (Or.inr rfl)).trans (koM_s _ g (Or.inl rfl))
  · split
    · exact h1.trans ((rsM_s _ _ (Or.inl rfl)).trans (skM_s _ _ (Or.inr rfl)))
    · exact h1
theorem okB_step {s t : PT} {F S : Nat} (h : okB s) (hn : nrw s t) (hs : sav s t F S) (h1 : ¬ t.2.1 F < t.1 F) (h2 : ¬ t.2.1 S < t.1 S) : okB t := by
  intro k hk
  obtain ⟨a, b, c⟩ := h k hk
  obtain ⟨d, e⟩ := hn.1 k
  refine ⟨by omega, ?_, by omega⟩
  by_cases e1 : k = F
  · subst e1; omega
  by_cases e2 : k = S
  · subst e2; omega
  obtain ⟨u, v⟩ := hs k e1 e2
  omega
theorem okB_w {s : PT} (h : okB s) : 0 ≤ wsm s ∧ wsm s ≤ 240 := by
  have := sm_bd (f := fun k => s.2.1 k - s.1 k) (a := 0) (b := 40) 6 (fun k hk => by have := h k hk; omega)
  unfold wsm
  omega
/-- values of a state on the way through a step, small -/
def smB (s : PT) : Prop := ∀ k, k < 6 → -400 ≤ s.1 k ∧ s.1 k ≤ 400 ∧ -400 ≤ s.2.1 k ∧ s.2.1 k ≤ 400
def bdB (M : Int) (s : PT) : Prop := ∀ k, k < 6 → -M ≤ s.1 k ∧ s.1 k ≤ M ∧ -M ≤ s.2.1 k ∧ s.2.1 k ≤ M
theorem bdB_up {M N : Int} {s : PT} (h : bdB M s) (hMN : M ≤ N) : bdB N s := fun k hk => by have := h k hk; omega
theorem bdB_rs {M : Int} {s : PT} {x : Nat} {v : Int} (h : bdB M s) (hv : -M ≤ v ∧ v ≤ M) : bdB M (rsM s x v) := by
  intro k hk
  have := h k hk
  unfold rsM
  split
  · show -M ≤ upf s.1 x v k ∧ upf s.1 x v k ≤ M ∧ -M ≤ s.2.1 k ∧ s.2.1 k ≤ M
    unfold upf
    split <;> omega
  · exact this
theorem bdB_sk {M : Int} {s : PT} {x : Nat} {v : Int} (h : bdB M s) (hv : -M ≤ v ∧ v ≤ M) : bdB M (skM s x v) := by
  intro k hk
  have := h k hk
  unfold skM
  split
  · show -M ≤ s.1 k ∧ s.1 k ≤ M ∧ -M ≤ upf s.2.1 x v k ∧ upf s.2.1 x v k ≤ M
    unfold upf
    split <;> omega
  · exact this
theorem bdB_lo {M : Int} {s : PT} {x : Nat} {u v : Int} (h : bdB M s) (hv : -M ≤ v ∧ v ≤ M) : bdB M (loM s x u v) := by
  intro k hk
  have := h k hk
  unfold loM
  split
  · show -M ≤ upf s.1 x v k ∧ upf s.1 x v k ≤ M ∧ -M ≤ s.2.1 k ∧ s.2.1 k ≤ M
    unfold upf
    split <;> omega
  · exact this
theorem bdB_hi {M : Int} {s : PT} {x : Nat} {u v : Int} (h : bdB M s) (hv : -M ≤ u ∧ u ≤ M) : bdB M (hiM s x u v) := by
  intro k hk
  have := h k hk
  unfold hiM
  split
  · show -M ≤ s.1 k ∧ s.1 k ≤ M ∧ -M ≤ upf s.2.1 x u k ∧ upf s.2.1 x u k ≤ M
    unfold upf
    split <;> omega
  · exact this
theorem bdB_ko {M : Int} {s : PT} {f x : Nat} {g : Int} (h : bdB M s) (hf : f < 6) (hg : 0 ≤ g ∧ g ≤ 20) : bdB (M + 20) (koM s f x g) := by
  have := h f hf
  unfold koM
  split
  · exact bdB_hi (bdB_lo (bdB_up h (by omega)) (by omega)) (by omega)
  · exact bdB_up h (by omega)
theorem bdB_lw {M : Int} {s : PT} {F S : Nat} {g : Int} (h : bdB M s) (hF : F < 6) (hS : S < 6) (hg : 0 ≤ g ∧ g ≤ 20) : bdB (M + 40) (lwM F S g s) := by
  have a := h F hF
  have h1 : bdB (M + 20) (rsM s S (s.1 F + g)) := bdB_rs (bdB_up h (by omega)) (by omega)
  have b := h1 S hS
  exact bdB_sk (bdB_up h1 (by omega)) (by omega)
theorem bdB_ex {M : Int} {s : PT} {F S : Nat} {g : Int} (h : bdB M s) (hF : F < 6) (hS : S < 6) (hg : 0 ≤ g ∧ g ≤ 20) : bdB (M + 40) (exM F S g s) := by
  have a := h S hS
  have h1 : bdB (M + 20) (rsM s F (s.1 S - g)) := bdB_rs (bdB_up h (by omega)) (by omega)
  have b := h1 F hF
  exact bdB_sk (bdB_up h1 (by omega)) (by omega)
theorem sp1_bd {K : Int} {s : PT} {F S : Nat} {g : Int} (h : bdB 40 s) (hF : F < 6) (hS : S < 6) (hg : 0 ≤ g ∧ g ≤ 20) : bdB 400 (sp1 K F S g s) := by
  unfold sp1
  split
  · exact bdB_up (bdB_ko (bdB_ko h hF hg) hS hg) (by omega)
  · split
    · exact bdB_up (bdB_ex (bdB_lw h hF hS hg) hF hS hg) (by omega)
    · exact bdB_up (bdB_lw h hF hS hg) (by omega)
theorem okB_bd {s : PT} (h : okB s) : bdB 40 s := fun k hk => by have := h k hk; omega
/-! the machine's bounds at t, its numbers at w, constraints at c -/
def ntS (I : IM) (t w : Nat) : PT := (I (t + 1), I (t + 2), I w 1)
def nfr (I J : IM) (t w : Nat) : Prop := (∀ a, a ≠ t + 1 → a ≠ t + 2 → a ≠ w → J a = I a) ∧ J w 0 = I w 0 ∧ J w 2 = I w 2
theorem nfr.refl (I : IM) (t w : Nat) : nfr I I t w := ⟨fun _ _ _ _ => rfl, rfl, rfl⟩
theorem nfr.trans {I J K : IM} {t w : Nat} (h : nfr I J t w) (h2 : nfr J K t w) : nfr I K t w := ⟨fun a p q r => (h2.1 a p q r).trans (h.1 a p q r), h2.2.1.trans h.2.1, h2.2.2.trans h.2.2⟩
def cnI (I : IM) (c : Nat) : CN := fun p => (I (c + 2) p, (I (c + 3) p).toNat, (I (c + 4) p).toNat, I (c + 5) p)
theorem st_fn (I : IM) (a k : Nat) (v : Int) : st I a k v a = upf (I a) k v := by
  funext j
  show (if a = a ∧ j = k then v else I a j) = if j = k then v else I a j
  exact ifc (by omega) _ _

theorem s_N_raise {d : Nat} {B : HP} {I : IM} {Post : Out → HP → Prop} {t w : Nat} {x v : Int} (hb : oB B t) (hw : hK B w = (15, 0)) (hx : 0 ≤ x ∧ x < 6) (htw : w ≠ t + 1 ∧ w ≠ t + 2) (h1 : r32 (I (t + 1) x.toNat)) (h2 : r32 v) (hp : ∀ J : IM, ntS J t w = rsM (ntS I t w) x.toNat v → nfr I J t w → Post (.inl none) (wI B J)) : Sp (d + 1) k_X5_raiseLow [.ref w, .ref t, .int (i3 (x)), .int (i3 (v))] (wI B I) Post := by
  refine Sp_intro md_X5_raiseLow rfl rfl (fun G hG => ?_)
  obtain ⟨k1, k2, k3, k4, k5⟩ := hb
  show G 0 [some (.ref w), some (.ref t), some (.int (i3 (x))), some (.int (i3 (v)))] [] (wI B I)
  refine q_aload_n hG rfl rfl ?_
  refine q_getR hG rfl (by assumption) (by assumption) ?_
  refine q_iload_n hG rfl rfl ?_
  refine q_iald hG rfl (by assumption) ⟨by omega, by omega, by omega⟩ ?_
  refine q_iload_n hG rfl rfl ?_
  refine q_icmp_ge hG rfl (h1) (h2) (fun hc7 => ?_) (fun hc7 => ?_)
  · refine q_vret hG rfl ?_
    have e : ¬ (ntS I t w).1 x.toNat < v := by show ¬ I (t + 1) x.toNat < v; omega
    refine hp _ ?_ (nfr.refl I t w)
    unfold rsM
    rw [if_neg e]
  · refine q_aload_n hG rfl rfl ?_
    refine q_getR hG rfl (by assumption) (by assumption) ?_
    refine q_iload_n hG rfl rfl ?_
    refine q_iload_n hG rfl rfl ?_
    refine q_iast hG rfl (by assumption) ⟨by omega, by omega, by omega⟩ ?_
    refine q_aload_n hG rfl rfl ?_
    refine q_dup hG rfl rfl ?_
    refine q_getI0v (v := I w 1) hG rfl (by assumption) (by rw [st_row _ _ htw.1]) ?_
    refine q_iconst (v := 1) hG rfl rfl ?_
    refine q_iadd hG rfl ?_
    refine q_putI0 hG rfl (by assumption) ?_
    refine q_vret hG rfl ?_
    have e : (ntS I t w).1 x.toNat < v := by show I (t + 1) x.toNat < v; omega
    refine hp _ ?_ ⟨fun a p q r => ?_, ?_, ?_⟩
    · unfold rsM
      rw [if_pos e]
      unfold ntS
      simp only [st_fn, st_row _ _ htw.1.symm, st_row _ _ htw.2.symm, st_row _ _ (show t + 1 ≠ t + 2 by omega), st_row _ _ (show t + 2 ≠ t + 1 by omega), st_row _ _ htw.1, st_row _ _ htw.2, upf_same]
    · rw [st_row _ _ r, st_row _ _ (by omega)]
    · rw [st_ne _ _ (by omega), st_row _ _ (by omega)]
    · rw [st_ne _ _ (by omega), st_row _ _ (by omega)]
theorem s_N_sink {d : Nat} {B : HP} {I : IM} {Post : Out → HP → Prop} {t w : Nat} {x v : Int} (hb : oB B t) (hw : hK B w = (15, 0)) (hx : 0 ≤ x ∧ x < 6) (htw : w ≠ t + 1 ∧ w ≠ t + 2) (h1 : r32 (I (t + 2) x.toNat)) (h2 : r32 v) (hp : ∀ J : IM, ntS J t w = skM (ntS I t w) x.toNat v → nfr I J t w → Post (.inl none) (wI B J)) : Sp (d + 1) k_X5_sinkHigh [.ref w, .ref t, .int (i3 (x)), .int (i3 (v))] (wI B I) Post := by
  refine Sp_intro md_X5_sinkHigh rfl rfl (fun G hG => ?_)
  obtain ⟨k1, k2, k3, k4, k5⟩ := hb
  show G 0 [some (.ref w), some (.ref t), some (.int (i3 (x))), some (.int (i3 (v)))] [] (wI B I)
  refine q_aload_n hG rfl rfl ?_
  refine q_getR hG rfl (by assumption) (by assumption) ?_
  refine q_iload_n hG rfl rfl ?_
  refine q_iald hG rfl (by assumption) ⟨by omega, by omega, by omega⟩ ?_
  refine q_iload_n hG rfl rfl ?_
  refine q_icmp_le hG rfl (h1) (h2) (fun hc7 => ?_) (fun hc7 => ?_)
  · refine q_vret hG rfl ?_
    have e : ¬ v < (ntS I t w).2.1 x.toNat := by show ¬ v < I (t + 2) x.toNat; omega
    refine hp _ ?_ (nfr.refl I t w)
    unfold skM
    rw [if_neg e]
  · refine q_aload_n hG rfl rfl ?_
    refine q_getR hG rfl (by assumption) (by assumption) ?_
    refine q_iload_n hG rfl rfl ?_
    refine q_iload_n hG rfl rfl ?_
    refine q_iast hG rfl (by assumption) ⟨by omega, by omega, by omega⟩ ?_
    refine q_aload_n hG rfl rfl ?_
    refine q_dup hG rfl rfl ?_
    refine q_getI0v (v := I w 1) hG rfl (by assumption) (by rw [st_row _ _ htw.2]) ?_
    refine q_iconst (v := 1) hG rfl rfl ?_
    refine q_iadd hG rfl ?_
    refine q_putI0 hG rfl (by assumption) ?_
    refine q_vret hG rfl ?_
    have e : v < (ntS I t w).2.1 x.toNat := by show v < I (t + 2) x.toNat; omega
    refine hp _ ?_ ⟨fun a p q r => ?_, ?_, ?_⟩
    · unfold skM
      rw [if_pos e]
      unfold ntS
      simp only [st_fn, st_row _ _ htw.1.symm, st_row _ _ htw.2.symm, st_row _ _ (show t + 1 ≠ t + 2 by omega), st_row _ _ (show t + 2 ≠ t + 1 by omega), st_row _ _ htw.1, st_row _ _ htw.2, upf_same]
    · rw [st_row _ _ r, st_row _ _ (by omega)]
    · rw [st_ne _ _ (by omega), st_row _ _ (by omega)]
    · rw [st_ne _ _ (by omega), st_row _ _ (by omega)]
