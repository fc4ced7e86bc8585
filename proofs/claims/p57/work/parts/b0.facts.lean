/-! facts of the data: ids ascend, ranks are places, what a peace gives -/
def AscR (R : RW) : Prop := ∀ k : Nat, (k : Int) + 1 < R 1 → R (29 + 5 * k) < R (29 + 5 * (k + 1))
theorem asc_lt {R : RW} (h : AscR R) : ∀ (j i : Nat), i < j → (j : Int) < R 1 → R (29 + 5 * i) < R (29 + 5 * j)
  | 0, i, h1, _ => absurd h1 (Nat.not_lt_zero i)
  | j + 1, i, h1, h2 => by
    have h3 := h j (by omega)
    by_cases e : i = j
    · rw [e]; exact h3
    · exact Int.lt_trans (asc_lt h j i (by omega) (by omega)) h3
theorem asc_inj {R : RW} (h : AscR R) {i j : Nat} (hi : (i : Int) < R 1) (hj : (j : Int) < R 1) (e : R (29 + 5 * i) = R (29 + 5 * j)) : i = j := by
  rcases Nat.lt_trichotomy i j with c | c | c
  · have := asc_lt h j i c hj; omega
  · exact c
  · have := asc_lt h i j c hi; omega
theorem asc_fd {R : RW} (h : AscR R) {q p : Nat} (hq : (q : Int) < R 1) (hf : fdR R (R (29 + 5 * q)) p) : p = q := asc_inj h (by have := hf.1; omega) hq hf.2.1
theorem asc_no {R : RW} {q : Nat} (hq : (q : Int) < R 1) (hf : noR R (R (29 + 5 * q))) : False := hf q (by omega) rfl
theorem asc_cg {R R' : RW} (h : AscR R) (e1 : R' 1 = R 1) (e : ∀ j, 29 ≤ j → R' j = R j) : AscR R' := fun k hk => by
  rw [e1] at hk
  rw [e _ (by omega), e _ (by omega)]
  exact h k hk
theorem asc_add {R : RW} (h : AscR R) (h0 : 0 ≤ R 0 ∧ R 0 < 6) (lo hi : Int) : AscR (addR R lo hi) := asc_cg h (addR_o R lo hi (by omega) h0) (fun j hj => addR_o R lo hi (by omega) h0)
theorem asc_frm {R : RW} (h : AscR R) {d : Nat} (hd : d < 6) (lo hi : Int) : AscR (frmR R d lo hi) := asc_cg h (frm_o R d lo hi hd (by omega)) (fun j hj => frm_o R d lo hi hd (by omega))
theorem asc_nar {R : RW} (h : AscR R) {d : Nat} (hd : d < 6) (lo hi : Int) : AscR (narR R d lo hi) := asc_cg h (nar_o R d lo hi hd (by omega)) (fun j hj => nar_o R d lo hi hd (by omega))
theorem asc_open {R : RW} (h : AscR R) : AscR (openR R) := asc_cg h (openR_o R (by omega)) (fun j hj => openR_o R (by omega))
theorem asc_set {R : RW} (h : AscR R) (s : PT) (dp : Int) : AscR (setB R s dp) := asc_cg h (setB_o R s dp (by omega)) (fun j hj => setB_o R s dp (by omega))
theorem asc_bnd {R : RW} (h : AscR R) {q : Int} (hW : WfR q R) (kd f s g : Int) : AscR (bndR R kd f s g) := fun k hk => by
  have e1 : bndR R kd f s g 1 = R 1 + 1 := rfl
  have a0 := hW.2.1
  rw [e1] at hk
  rw [(bnd_c R kd f s g k).1, (bnd_c R kd f s g (k + 1)).1]
  unfold upf
  rw [if_neg (by omega)]
  split
  · exact (hW.2.2.2.2.2.2 k (by omega)).1.2
  · exact h k (by omega)
theorem asc_drp {R : RW} (h : AscR R) {p : Nat} (hp : (p : Int) < R 1) : AscR (drpR R p) := fun k hk => by
  have e1 : drpR R p 1 = R 1 - 1 := by
    show openR _ 1 = _
    rw [openR_o _ (by omega)]
    rfl
  rw [e1] at hk
  have a := drp_c R p k 0 (by omega) (by omega)
  have b := drp_c R p (k + 1) 0 (by omega) (by omega)
  rw [show 29 + 5 * k + 0 = 29 + 5 * k by omega, show 29 + 5 * (k + 1) + 0 = 29 + 5 * (k + 1) by omega] at a
  rw [show 29 + 5 * (k + 1) + 0 = 29 + 5 * (k + 1) by omega, show 29 + 5 * (k + 1 + 1) + 0 = 29 + 5 * (k + 1 + 1) by omega] at b
  rw [a, b]
  by_cases c1 : p ≤ k
  · rw [if_pos c1, if_pos (by omega)]
    exact h (k + 1) (by omega)
  · rw [if_neg c1]
    by_cases c2 : p ≤ k + 1
    · rw [if_pos c2]
      exact asc_lt h (k + 1 + 1) k (by omega) (by omega)
    · rw [if_neg c2]
      exact h k (by omega)
/-! sums -/
theorem sm_le {f g : Nat → Int} : ∀ n : Nat, (∀ k, k < n → f k ≤ g k) → sm f n ≤ sm g n
  | 0, _ => Int.le_refl _
  | n + 1, h => by
    have a := sm_le n (fun k hk => h k (by omega))
    have b := h n (by omega)
    show sm f n + f n ≤ sm g n + g n
    omega
theorem sm_lt {f g : Nat → Int} {x : Nat} (hf : f x < g x) : ∀ n : Nat, x < n → (∀ k, k < n → f k ≤ g k) → sm f n < sm g n
  | 0, hx, _ => absurd hx (Nat.not_lt_zero x)
  | n + 1, hx, h => by
    have b := h n (by omega)
    show sm f n + f n < sm g n + g n
    by_cases e : x = n
    · subst e
      have a := sm_le x (fun k hk => h k (by omega))
      omega
    · have a := sm_lt hf n (by omega) (fun k hk => h k (by omega))
      omega
theorem sm_add {f g : Nat → Int} : ∀ n : Nat, sm (fun k => f k + g k) n = sm f n + sm g n
  | 0 => rfl
  | n + 1 => by
    show sm (fun k => f k + g k) n + (f n + g n) = sm f n + f n + (sm g n + g n)
    rw [sm_add n]
    omega
theorem sm_zero : ∀ n : Nat, sm (fun _ => 0) n = 0
  | 0 => rfl
  | n + 1 => by
    show sm (fun _ => 0) n + 0 = 0
    rw [sm_zero n]; rfl
theorem sm_one : ∀ n : Nat, sm (fun _ => 1) n = (n : Int)
  | 0 => rfl
  | n + 1 => by
    show sm (fun _ => 1) n + 1 = _
    rw [sm_one n]; omega
theorem sm_swap {F : Nat → Nat → Int} (n : Nat) : ∀ m : Nat, sm (fun v => sm (fun q => F v q) n) m = sm (fun q => sm (fun v => F v q) m) n
  | 0 => by
    show (0 : Int) = sm (fun _ => 0) n
    rw [sm_zero]
  | m + 1 => by
    show sm (fun v => sm (fun q => F v q) n) m + sm (fun q => F m q) n = sm (fun q => sm (fun v => F v q) m + F m q) n
    rw [sm_swap n m, sm_add]
theorem sm_none {f : Nat → Int} {v : Int} : ∀ n : Nat, (∀ q, q < n → f q ≠ v) → sm (fun q => if f q = v then 1 else 0) n = 0
  | 0, _ => rfl
  | n + 1, h => by
    show sm (fun q => if f q = v then 1 else 0) n + (if f n = v then 1 else 0) = 0
    rw [sm_none n (fun q hq => h q (by omega)), if_neg (h n (by omega))]; rfl
theorem sm_uni {f : Nat → Int} {v : Int} : ∀ n : Nat, (∀ i, i < n → ∀ j, j < n → f i = f j → i = j) → sm (fun q => if f q = v then 1 else 0) n ≤ 1
  | 0, _ => by show (0 : Int) ≤ 1; omega
  | n + 1, h => by
    show sm (fun q => if f q = v then 1 else 0) n + (if f n = v then 1 else 0) ≤ 1
    by_cases e : f n = v
    · rw [if_pos e, sm_none n (fun q hq e2 => by have := h q (by omega) n (by omega) (e2.trans e.symm); omega)]; omega
    · rw [if_neg e]
      have := sm_uni (f := f) (v := v) n (fun i hi j hj => h i (by omega) j (by omega))
      omega
theorem sm_val {x : Int} : ∀ m : Nat, 0 ≤ x → x < m → sm (fun v => if x = (v : Int) then 1 else 0) m = 1
  | 0, h1, h2 => by exfalso; omega
  | m + 1, h1, h2 => by
    show sm (fun v => if x = (v : Int) then 1 else 0) m + (if x = (m : Int) then 1 else 0) = 1
    by_cases e : x = (m : Int)
    · rw [if_pos e, show sm (fun v : Nat => if x = (v : Int) then (1 : Int) else 0) m = sm (fun _ => 0) m from sm_congr m (fun k hk => if_neg (by omega)), sm_zero]; rfl
    · rw [if_neg e, sm_val m h1 (by omega)]; rfl
theorem rk_onto {f : Nat → Int} {n : Nat} (hr : ∀ q, q < n → 0 ≤ f q ∧ f q < n) (hi : ∀ i, i < n → ∀ j, j < n → f i = f j → i = j) {v : Nat} (hv : v < n) : ∃ q, q < n ∧ f q = v := by
  refine Classical.byContradiction (fun hno => ?_)
  have h1 : sm (fun w : Nat => sm (fun q => if f q = (w : Int) then 1 else 0) n) n = n := by
    rw [sm_swap (F := fun w q => if f q = ((w : Nat) : Int) then 1 else 0) n n, sm_congr n (fun q hq => sm_val (x := f q) n (hr q hq).1 (hr q hq).2), sm_one]
  have h2 : sm (fun w : Nat => sm (fun q => if f q = (w : Int) then 1 else 0) n) n < sm (fun _ => 1) n := by
    refine sm_lt (x := v) ?_ n hv (fun w hw => sm_uni n hi)
    rw [sm_none n (fun q hq e => hno ⟨q, hq, e⟩)]
    omega
  rw [h1, sm_one] at h2
  omega
/-! ranks of a strict order -/
def ordC (n : Nat) (c : Nat → Nat → Int) : Prop := (∀ a b, c a b = 0 ∨ c a b = 1) ∧ (∀ a, c a a = 0) ∧ (∀ a b e, c a b = 1 → c b e = 1 → c a e = 1) ∧ ∀ a b, a < n → b < n → a ≠ b → c a b = 1 ∨ c b a = 1
section
variable {n : Nat} {c : Nat → Nat → Int}
theorem rk_lt (h : ordC n c) {a b : Nat} (ha : a < n) (e : c a b = 1) : sm (fun o => c o a) n < sm (fun o => c o b) n :=
  sm_lt (x := a) (by rw [h.2.1 a, e]; omega) n ha (fun o _ => by
    rcases h.1 o a with z | z
    · rw [z]; rcases h.1 o b with y | y <;> omega
    · rw [z, h.2.2.1 o a b z e]; omega)
theorem rk_bd (h : ordC n c) {q : Nat} (hq : q < n) : 0 ≤ sm (fun o => c o q) n ∧ sm (fun o => c o q) n < n := by
  have h1 : sm (fun _ => 0) n ≤ sm (fun o => c o q) n := sm_le n (fun o _ => by rcases h.1 o q with y | y <;> omega)
  have h2 : sm (fun o => c o q) n < sm (fun _ => 1) n := sm_lt (x := q) (by rw [h.2.1 q]; omega) n hq (fun o _ => by rcases h.1 o q with y | y <;> omega)
  rw [sm_zero] at h1
  rw [sm_one] at h2
  exact ⟨h1, h2⟩
theorem rk_inj (h : ordC n c) : ∀ i, i < n → ∀ j, j < n → sm (fun o => c o i) n = sm (fun o => c o j) n → i = j := fun i hi j hj e => by
  refine Classical.byContradiction (fun hne => ?_)
  rcases h.2.2.2 i j hi hj hne with z | z
  · have := rk_lt h hi z; omega
  · have := rk_lt h hj z; omega
theorem rk_at (h : ordC n c) {v : Nat} (hv : v < n) : ∃ q, q < n ∧ sm (fun o => c o q) n = v := rk_onto (f := fun q => sm (fun o => c o q) n) (fun q hq => rk_bd h hq) (rk_inj h) hv
theorem rk_ord (h : ordC n c) {a b : Nat} (ha : a < n) (hb : b < n) (e : sm (fun o => c o a) n < sm (fun o => c o b) n) : c a b = 1 := by
  by_cases hne : a = b
  · subst hne; omega
  · rcases h.2.2.2 a b ha hb hne with z | z
    · exact z
    · have := rk_lt h hb z; omega
end
theorem ite1 {p : Prop} [Decidable p] : (if p then (1 : Int) else 0) = 1 ↔ p := by
  by_cases h : p
  · rw [if_pos h]; exact ⟨fun _ => h, fun _ => rfl⟩
  · rw [if_neg h]; exact ⟨fun e => by omega, fun e => absurd e h⟩
theorem ord_ah (R : RW) (n : Nat) : ordC n (fun o q => if ahR R o q then 1 else 0) := by
  refine ⟨fun a b => ?_, fun a => if_neg ?_, fun a b e h1 h2 => ?_, fun a b _ _ hne => ?_⟩
  · show (if ahR R a b then (1 : Int) else 0) = 0 ∨ (if ahR R a b then (1 : Int) else 0) = 1
    split
    · exact Or.inr rfl
    · exact Or.inl rfl
  · unfold ahR; omega
  · have h1 := ite1.mp h1
    have h2 := ite1.mp h2
    refine ite1.mpr ?_
    unfold ahR at h1 h2 ⊢
    omega
  · show (if ahR R a b then (1 : Int) else 0) = 1 ∨ (if ahR R b a then (1 : Int) else 0) = 1
    rw [ite1, ite1]
    unfold ahR
    omega
abbrev cgP (R : RW) (o q : Nat) : Prop := R (29 + 5 * q + 4) < R (29 + 5 * o + 4) ∨ (R (29 + 5 * o + 4) = R (29 + 5 * q + 4) ∧ o < q)
theorem ord_cg (R : RW) (n : Nat) : ordC n (fun o q => if cgP R o q then 1 else 0) := by
  refine ⟨fun a b => ?_, fun a => if_neg ?_, fun a b e h1 h2 => ?_, fun a b _ _ hne => ?_⟩
  · show (if cgP R a b then (1 : Int) else 0) = 0 ∨ (if cgP R a b then (1 : Int) else 0) = 1
    split
    · exact Or.inr rfl
    · exact Or.inl rfl
  · unfold cgP; omega
  · have h1 := ite1.mp h1
    have h2 := ite1.mp h2
    refine ite1.mpr ?_
    unfold cgP at h1 h2 ⊢
    omega
  · show (if cgP R a b then (1 : Int) else 0) = 1 ∨ (if cgP R b a then (1 : Int) else 0) = 1
    rw [ite1, ite1]
    unfold cgP
    omega
theorem dw_at (R : RW) {v : Nat} (hv : v < (R 0).toNat) (h : ∀ q, q < (R 0).toNat → ¬ dwR R q = (v : Int)) : False := by
  obtain ⟨q, h1, h2⟩ := rk_at (ord_ah R (R 0).toNat) hv
  exact h q h1 h2
theorem dw_no (R : RW) {p : Nat} (hp : p < (R 0).toNat) (e : dwR R p = R 0) : False := by
  have h : dwR R p < (R 0).toNat := (rk_bd (ord_ah R (R 0).toNat) hp).2
  omega
theorem dw_ord (R : RW) {a b : Nat} (ha : a < (R 0).toNat) (hb : b < (R 0).toNat) (e : dwR R a < dwR R b) : ahR R a b := ite1.mp (rk_ord (ord_ah R (R 0).toNat) ha hb e)
theorem cg_at (R : RW) {v : Nat} (hv : v < (R 1).toNat) (h : ∀ q, q < (R 1).toNat → ¬ cgR R q = (v : Int)) : False := by
  obtain ⟨q, h1, h2⟩ := rk_at (ord_cg R (R 1).toNat) hv
  exact h q h1 h2
theorem cg_no (R : RW) {p : Nat} (hp : p < (R 1).toNat) (e : cgR R p = R 1) : False := by
  have h : cgR R p < (R 1).toNat := (rk_bd (ord_cg R (R 1).toNat) hp).2
  omega
theorem cg_ord (R : RW) {a b : Nat} (ha : a < (R 1).toNat) (hb : b < (R 1).toNat) (e : cgR R a < cgR R b) : cgP R a b := ite1.mp (rk_ord (ord_cg R (R 1).toNat) ha hb e)
/-! a peace -/
theorem fp_in {R : RW} {b : Nat → Int} (h : fpR R b) (k : Nat) (hk : k < 6) : R (5 + 4 * k + 2) ≤ b k ∧ b k ≤ R (5 + 4 * k + 3) := h.1.1 k hk
theorem fp_ho {R : RW} {b : Nat → Int} (h : fpR R b) {q : Nat} (hq : (q : Int) < R 1) : hoP (R (29 + 5 * q + 1)) (b (R (29 + 5 * q + 2)).toNat) (b (R (29 + 5 * q + 3)).toNat) (R (29 + 5 * q + 4)) := by
  have f := h.1.2 q (by omega)
  have f : fulM (R (29 + 5 * q + 1)) (R (29 + 5 * q + 2)).toNat (R (29 + 5 * q + 3)).toNat (R (29 + 5 * q + 4)) b := f
  obtain ⟨f1, f2, f3⟩ := f
  unfold hoP
  split
  · rename_i e; exact f1 e
  · split
    · rename_i e2; exact f2 e2
    · rename_i e e2
      have := f3 e e2
      split <;> omega
theorem fp_lo {R : RW} {b : Nat → Int} (hb : fpR R b) (h0 : 0 < R 0) {h g : Int} {y : Nat} (hp : posR R 0 h y g) : b 0 ≤ h := by
  obtain ⟨p, p1, p2, -⟩ := hp
  refine Classical.byContradiction (fun hlt => hb.2 p p1 ⟨0, by omega, by omega, fun e he => absurd he (Nat.not_lt_zero e)⟩)
theorem fp_lo2 {R : RW} {b : Nat → Int} (hb : fpR R b) (h0 : 1 < R 0) {g : Int} (hp : posR R 0 (b 0) 1 g) : b 1 ≤ g := by
  obtain ⟨p, p1, p2, p3⟩ := hp
  refine Classical.byContradiction (fun hlt => hb.2 p p1 ⟨1, by omega, by omega, fun e he => ?_⟩)
  have : e = 0 := by omega
  subst this
  exact p2
theorem fp_pos {R : RW} {b : Nat → Int} (hb : fpR R b) : posR R 0 (b 0) 1 (b 1) := ⟨b, hb.1, rfl, rfl⟩
theorem pos_no {R : RW} (h : ∀ p, ¬ peS R (ptR R) p) {x y : Nat} {u v : Int} (hp : posR R x u y v) : False := by
  obtain ⟨p, p1, -⟩ := hp
  exact h p p1
theorem pos_eq {R : RW} {x : Nat} {u v : Int} (hp : posR R x u x v) : u = v := by
  obtain ⟨p, -, p2, p3⟩ := hp
  exact p2.symm.trans p3
theorem al_iff {R : RW} {q : Int} (hW : WfR q R) {p : Nat} (hp : (p : Int) < R 1) : alR R p ↔ ∀ x y : Int, R (5 + 4 * (R (29 + 5 * p + 2)).toNat + 2) ≤ x → x ≤ R (5 + 4 * (R (29 + 5 * p + 2)).toNat + 3) → R (5 + 4 * (R (29 + 5 * p + 3)).toNat + 2) ≤ y → y ≤ R (5 + 4 * (R (29 + 5 * p + 3)).toNat + 3) → hoP (R (29 + 5 * p + 1)) x y (R (29 + 5 * p + 4)) := by
  obtain ⟨y1, y2, y3, y4, y5, y6, y7⟩ := hW.2.2.2.2.2.2 p hp
  have w0 := hW.1
  have f1 := hW.2.2.2.2.2.1 (R (29 + 5 * p + 2)).toNat (by omega)
  have f2 := hW.2.2.2.2.2.1 (R (29 + 5 * p + 3)).toNat (by omega)
  exact alwP_iff (by omega) (by omega) (fun a b => y7 (by omega))
theorem nv_iff {R : RW} {q : Int} (hW : WfR q R) {p : Nat} (hp : (p : Int) < R 1) : nvR R p ↔ ∀ x y : Int, R (5 + 4 * (R (29 + 5 * p + 2)).toNat + 2) ≤ x → x ≤ R (5 + 4 * (R (29 + 5 * p + 2)).toNat + 3) → R (5 + 4 * (R (29 + 5 * p + 3)).toNat + 2) ≤ y → y ≤ R (5 + 4 * (R (29 + 5 * p + 3)).toNat + 3) → ¬ hoP (R (29 + 5 * p + 1)) x y (R (29 + 5 * p + 4)) := by
  obtain ⟨y1, y2, y3, y4, y5, y6, y7⟩ := hW.2.2.2.2.2.2 p hp
  have w0 := hW.1
  have f1 := hW.2.2.2.2.2.1 (R (29 + 5 * p + 2)).toNat (by omega)
  have f2 := hW.2.2.2.2.2.1 (R (29 + 5 * p + 3)).toNat (by omega)
  exact nevP_iff (by omega) (by omega)
