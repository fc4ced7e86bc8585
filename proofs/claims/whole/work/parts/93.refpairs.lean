/-! the reference: pairs, orders, passes that are tried -/
def hoP (K h g gap : Int) : Prop := if K = 60 then h + gap ≤ g else if K = 61 then h + gap = g else gap ≤ (if h < g then g - h else h - g)
theorem alwP_iff {K lf hf ls hs g : Int} (h1 : lf ≤ hf) (h2 : ls ≤ hs) (hg : ¬ K = 60 → ¬ K = 61 → 1 ≤ g) : alwP K lf hf ls hs g ↔ ∀ x y : Int, lf ≤ x → x ≤ hf → ls ≤ y → y ≤ hs → hoP K x y g := by
  unfold alwP hoP
  by_cases k1 : K = 60
  · simp only [if_pos k1]
    exact ⟨fun h x y a b c d => by omega, fun h => h hf ls h1 (by omega) (by omega) h2⟩
  · simp only [if_neg k1]
    by_cases k2 : K = 61
    · simp only [if_pos k2]
      refine ⟨fun h x y a b c d => by omega, fun h => ?_⟩
      have a := h hf ls h1 (by omega) (by omega) h2
      have b := h lf hs (by omega) h1 h2 (by omega)
      omega
    · simp only [if_neg k2]
      have g1 := hg k1 k2
      refine ⟨fun h x y a b c d => by split <;> omega, fun h => ?_⟩
      by_cases c1 : hs < lf
      · have a := h lf hs (by omega) h1 h2 (by omega)
        rw [if_neg (by omega)] at a
        omega
      · by_cases c2 : hf < ls
        · have a := h hf ls h1 (by omega) (by omega) h2
          rw [if_pos (by omega)] at a
          omega
        · by_cases c3 : lf < ls
          · have a := h ls ls (by omega) (by omega) (by omega) h2
            rw [if_neg (by omega)] at a
            omega
          · have a := h lf lf (by omega) h1 (by omega) (by omega)
            rw [if_neg (by omega)] at a
            omega
theorem nevP_iff {K lf hf ls hs g : Int} (h1 : lf ≤ hf) (h2 : ls ≤ hs) : nevP K lf hf ls hs g ↔ ∀ x y : Int, lf ≤ x → x ≤ hf → ls ≤ y → y ≤ hs → ¬ hoP K x y g := by
  unfold nevP hoP
  by_cases k1 : K = 60
  · simp only [if_pos k1]
    refine ⟨fun h x y a b c d => by omega, fun h => ?_⟩
    have a := h lf hs (by omega) h1 h2 (by omega)
    omega
  · simp only [if_neg k1]
    by_cases k2 : K = 61
    · simp only [if_pos k2]
      refine ⟨fun h x y a b c d => by omega, fun h => ?_⟩
      by_cases c1 : hs < lf + g
      · exact Or.inl c1
      · by_cases c2 : hf + g < ls
        · exact Or.inr c2
        · exfalso
          by_cases c3 : ls ≤ lf + g
          · exact h lf (lf + g) (by omega) h1 c3 (by omega) rfl
          · exact h (ls - g) ls (by omega) (by omega) (by omega) h2 (by omega)
    · simp only [if_neg k2]
      refine ⟨fun h x y a b c d => by split <;> omega, fun h => ?_⟩
      have a := h lf hs (by omega) h1 h2 (by omega)
      have b := h hf ls h1 (by omega) (by omega) h2
      split at a <;> split at b <;> omega

theorem s_R_holds {d : Nat} {B : HP} {I : IM} {Post : Out → HP → Prop} {K h g gp : Int} (hK : r32 K) (hh : 0 ≤ h ∧ h ≤ 40) (hg : 0 ≤ g ∧ g ≤ 40) (hp : 0 ≤ gp ∧ gp ≤ 20) (p1 : hoP K h g gp → Post (.inl (some (.int (i3 1)))) (wI B I)) (p0 : ¬ hoP K h g gp → Post (.inl (some (.int (i3 0)))) (wI B I)) : Sp (d + 1) k_X9_holds [.int (i3 (K)), .int (i3 (h)), .int (i3 (g)), .int (i3 (gp))] (wI B I) Post := by
  refine Sp_intro md_X9_holds rfl rfl (fun G hG => ?_)
  show G 0 [some (.int (i3 (K))), some (.int (i3 (h))), some (.int (i3 (g))), some (.int (i3 (gp))), none] [] (wI B I)
  refine q_iload_n hG rfl rfl ?_
  refine q_iload_n hG rfl rfl ?_
  refine q_icmp_ge hG rfl ⟨by omega, by omega⟩ ⟨by omega, by omega⟩ (fun hc2 => ?_) (fun hc2 => ?_)
  · refine q_iload_n hG rfl rfl ?_
    refine q_iload_n hG rfl rfl ?_
    refine q_isub hG rfl ?_
    refine q_istore hG rfl rfl ?_
    refine q_iload_n hG rfl rfl ?_
    refine q_bipush (v := 60) hG rfl rfl ?_
    refine q_icmp_ne hG rfl (hK) ⟨by omega, by omega⟩ (fun hc19 => ?_) (fun hc19 => ?_)
    · refine q_iload_n hG rfl rfl ?_
      refine q_bipush (v := 61) hG rfl rfl ?_
      refine q_icmp_ne hG rfl (hK) ⟨by omega, by omega⟩ (fun hc40 => ?_) (fun hc40 => ?_)
      · refine q_iload hG rfl rfl ?_
        refine q_iload_n hG rfl rfl ?_
        refine q_icmp_lt hG rfl ⟨by omega, by omega⟩ ⟨by omega, by omega⟩ (fun hc61 => ?_) (fun hc61 => ?_)
        · refine q_iconst (v := 0) hG rfl rfl ?_
          refine q_iret5 hG rfl rfl (by decide) ?_
          refine p0 ?_
          unfold hoP
          (repeat' split) <;> omega
        · refine q_iconst (v := 1) hG rfl rfl ?_
          refine q_goto hG rfl ?_
          refine q_iret5 hG rfl rfl (by decide) ?_
          refine p1 ?_
          unfold hoP
          (repeat' split) <;> omega
      · refine q_iload_n hG rfl rfl ?_
        refine q_iload_n hG rfl rfl ?_
        refine q_iadd hG rfl ?_
        refine q_iload_n hG rfl rfl ?_
        refine q_icmp_ne hG rfl ⟨by omega, by omega⟩ ⟨by omega, by omega⟩ (fun hc47 => ?_) (fun hc47 => ?_)
        · refine q_iconst (v := 0) hG rfl rfl ?_
          refine q_goto hG rfl ?_
          refine q_iret5 hG rfl rfl (by decide) ?_
          refine p0 ?_
          unfold hoP
          (repeat' split) <;> omega
        · refine q_iconst (v := 1) hG rfl rfl ?_
          refine q_goto hG rfl ?_
          refine q_iret5 hG rfl rfl (by decide) ?_
          refine p1 ?_
          unfold hoP
          (repeat' split) <;> omega
    · refine q_iload_n hG rfl rfl ?_
      refine q_iload_n hG rfl rfl ?_
      refine q_iadd hG rfl ?_
      refine q_iload_n hG rfl rfl ?_
      refine q_icmp_gt hG rfl ⟨by omega, by omega⟩ ⟨by omega, by omega⟩ (fun hc26 => ?_) (fun hc26 => ?_)
      · refine q_iconst (v := 0) hG rfl rfl ?_
        refine q_goto hG rfl ?_
        refine q_iret5 hG rfl rfl (by decide) ?_
        refine p0 ?_
        unfold hoP
        (repeat' split) <;> omega
      · refine q_iconst (v := 1) hG rfl rfl ?_
        refine q_goto hG rfl ?_
        refine q_iret5 hG rfl rfl (by decide) ?_
        refine p1 ?_
        unfold hoP
        (repeat' split) <;> omega
  · refine q_iload_n hG rfl rfl ?_
    refine q_iload_n hG rfl rfl ?_
    refine q_isub hG rfl ?_
    refine q_goto hG rfl ?_
    refine q_istore hG rfl rfl ?_
    refine q_iload_n hG rfl rfl ?_
    refine q_bipush (v := 60) hG rfl rfl ?_
    refine q_icmp_ne hG rfl (hK) ⟨by omega, by omega⟩ (fun hc19 => ?_) (fun hc19 => ?_)
    · refine q_iload_n hG rfl rfl ?_
      refine q_bipush (v := 61) hG rfl rfl ?_
      refine q_icmp_ne hG rfl (hK) ⟨by omega, by omega⟩ (fun hc40 => ?_) (fun hc40 => ?_)
      · refine q_iload hG rfl rfl ?_
        refine q_iload_n hG rfl rfl ?_
        refine q_icmp_lt hG rfl ⟨by omega, by omega⟩ ⟨by omega, by omega⟩ (fun hc61 => ?_) (fun hc61 => ?_)
        · refine q_iconst (v := 0) hG rfl rfl ?_
          refine q_iret5 hG rfl rfl (by decide) ?_
          refine p0 ?_
          unfold hoP
          (repeat' split) <;> omega
        · refine q_iconst (v := 1) hG rfl rfl ?_
          refine q_goto hG rfl ?_
          refine q_iret5 hG rfl rfl (by decide) ?_
          refine p1 ?_
          unfold hoP
          (repeat' split) <;> omega
      · refine q_iload_n hG rfl rfl ?_
        refine q_iload_n hG rfl rfl ?_
        refine q_iadd hG rfl ?_
        refine q_iload_n hG rfl rfl ?_
        refine q_icmp_ne hG rfl ⟨by omega, by omega⟩ ⟨by omega, by omega⟩ (fun hc47 => ?_) (fun hc47 => ?_)
        · refine q_iconst (v := 0) hG rfl rfl ?_
          refine q_goto hG rfl ?_
          refine q_iret5 hG rfl rfl (by decide) ?_
          refine p0 ?_
          unfold hoP
          (repeat' split) <;> omega
        · refine q_iconst (v := 1) hG rfl rfl ?_
          refine q_goto hG rfl ?_
          refine q_iret5 hG rfl rfl (by decide) ?_
          refine p1 ?_
          unfold hoP
          (repeat' split) <;> omega
    · refine q_iload_n hG rfl rfl ?_
      refine q_iload_n hG rfl rfl ?_
      refine q_iadd hG rfl ?_
      refine q_iload_n hG rfl rfl ?_
      refine q_icmp_gt hG rfl ⟨by omega, by omega⟩ ⟨by omega, by omega⟩ (fun hc26 => ?_) (fun hc26 => ?_)
      · refine q_iconst (v := 0) hG rfl rfl ?_
        refine q_goto hG rfl ?_
        refine q_iret5 hG rfl rfl (by decide) ?_
        refine p0 ?_
        unfold hoP
        (repeat' split) <;> omega
      · refine q_iconst (v := 1) hG rfl rfl ?_
        refine q_goto hG rfl ?_
        refine q_iret5 hG rfl rfl (by decide) ?_
        refine p1 ?_
        unfold hoP
        (repeat' split) <;> omega
theorem all_up {Q : Int → Prop} {a y : Int} (h : a ≤ y) : (∀ t, a ≤ t → t < y + 1 → Q t) ↔ (∀ t, a ≤ t → t < y → Q t) ∧ Q y := by
  refine ⟨fun q => ⟨fun t h1 h2 => q t h1 (by omega), q y h (by omega)⟩, fun q t h1 h2 => ?_⟩
  by_cases e : t = y
  · rw [e]; exact q.2
  · exact q.1 t h1 (by omega)
theorem s_R_pairs {d : Nat} {B : HP} {I : IM} {Post : Out → HP → Prop} {m : Nat} (hm : oM B m) {R : RW} {q : Int} (hR : RepM I m 0 R) (hW : WfR q R) (hq : q ≤ 2000000000) {p : Nat} {z : Int} (hp : (p : Int) < R 1) (hz : z = 0 ∨ z = 1) (hq2 : ∀ n : Int, 0 ≤ n → n ≤ 2000 → (n = 0 ↔ ∀ x y : Int, R (5 + 4 * (R (29 + 5 * p + 2)).toNat + 2) ≤ x → x ≤ R (5 + 4 * (R (29 + 5 * p + 2)).toNat + 3) → R (5 + 4 * (R (29 + 5 * p + 3)).toNat + 2) ≤ y → y ≤ R (5 + 4 * (R (29 + 5 * p + 3)).toNat + 3) → ¬ (hoP (R (29 + 5 * p + 1)) x y (R (29 + 5 * p + 4)) ↔ z = 1)) → Post (.inl (some (.int (i3 n)))) (wI B I)) : Sp (d + 2) k_X9_pairs [.ref m, .int (i3 ((p : Int))), .int (i3 (z))] (wI B I) Post := by
  refine Sp_intro md_X9_pairs rfl rfl (fun G hG => ?_)
  have hm0 := hm
  obtain ⟨n1, n2, n3, n4, n5, n6, n7, n8, n9, n10, n11⟩ := hm
  have hR0 : ∀ j, j < 79 → I (m + 1) j = R j := hR.at
  have hRs : ∀ z : Int, ∀ j, j < 79 → st I m 0 z (m + 1) j = R j := fun z j hj => by rw [st_row _ _ (by omega)]; exact hR0 j hj
  have hW0 := hW
  obtain ⟨w0, w1, w2, w3, w4, wd, wc⟩ := hW
  have hdb : ∀ k, k < 6 → (0 ≤ R (5 + 4 * k + 2) ∧ R (5 + 4 * k + 2) ≤ 40) ∧ (0 ≤ R (5 + 4 * k + 3) ∧ R (5 + 4 * k + 3) ≤ 40) ∧ R (5 + 4 * k + 2) ≤ R (5 + 4 * k + 3) := fun k hk => by have u := (wd k hk).1; omega
  obtain ⟨y1, y2, y3, y4, y5, y6, y7⟩ := wc p hp
  have f1 := hdb (R (29 + 5 * p + 2)).toNat (by omega)
  have f2 := hdb (R (29 + 5 * p + 3)).toNat (by omega)
  have lq : ∀ (mz : Nat) (x : Int) (y : Int) (n : Int), ((R (5 + 4 * (R (29 + 5 * p + 2)).toNat + 3) - x) * 50 + (R (5 + 4 * (R (29 + 5 * p + 3)).toNat + 3) + 1 - y)).toNat = mz → R (5 + 4 * (R (29 + 5 * p + 2)).toNat + 2) ≤ x ∧ x ≤ R (5 + 4 * (R (29 + 5 * p + 2)).toNat + 3) → R (5 + 4 * (R (29 + 5 * p + 3)).toNat + 2) ≤ y ∧ y ≤ R (5 + 4 * (R (29 + 5 * p + 3)).toNat + 3) + 1 → 0 ≤ n ∧ n ≤ 41 * (x - R (5 + 4 * (R (29 + 5 * p + 2)).toNat + 2)) + (y - R (5 + 4 * (R (29 + 5 * p + 3)).toNat + 2)) → (n = 0 ↔ (∀ x2 : Int, R (5 + 4 * (R (29 + 5 * p + 2)).toNat + 2) ≤ x2 → x2 < x → ∀ y2 : Int, R (5 + 4 * (R (29 + 5 * p + 3)).toNat + 2) ≤ y2 → y2 ≤ R (5 + 4 * (R (29 + 5 * p + 3)).toNat + 3) → ¬ (hoP (R (29 + 5 * p + 1)) x2 y2 (R (29 + 5 * p + 4)) ↔ z = 1)) ∧ (∀ y2 : Int, R (5 + 4 * (R (29 + 5 * p + 3)).toNat + 2) ≤ y2 → y2 < y → ¬ (hoP (R (29 + 5 * p + 1)) x y2 (R (29 + 5 * p + 4)) ↔ z = 1))) → G 44 [some (.ref m), some (.int (i3 (p : Int))), some (.int (i3 z)), some (.int (i3 n)), some (.int (i3 x)), some (.int (i3 y))] [] (wI B I) := by
    intro mz
    induction mz using Nat.strongRecOn with
    | ind mz ih =>
      intro x y n hme hx hy hn hi
      refine q_iload hG rfl rfl ?_
      refine q_aload_n hG rfl rfl ?_
      refine q_aload_n hG rfl rfl ?_
      refine q_iload_n hG rfl rfl ?_
      refine q_iconst (v := 3) hG rfl rfl ?_
      refine q_callV6 hG rfl rfl rfl (by assumption) (s_R_cN (x := p) (w := 3) hm0 (by omega) (by decide) ?_)
      rw [show cR I m p 3 = R (29 + 5 * p + 3) from hR0 _ (by omega)]
      refine q_iconst (v := 3) hG rfl rfl ?_
      refine q_callV6 hG rfl rfl rfl (by assumption) (s_R_d (w := 3) hm0 ⟨by omega, by omega⟩ (by decide) ?_)
      rw [show dR I m (R (29 + 5 * p + 3)).toNat 3 = R (5 + 4 * (R (29 + 5 * p + 3)).toNat + 3) from hR0 _ (by omega)]
      refine q_icmp_gt hG rfl ⟨by omega, by omega⟩ ⟨by omega, by omega⟩ (fun hc57 => ?_) (fun hc57 => ?_)
      · refine q_iinc (c := 1) hG rfl rfl rfl rfl ?_
        refine q_goto hG rfl ?_
        refine q_iload hG rfl rfl ?_
        refine q_aload_n hG rfl rfl ?_
        refine q_aload_n hG rfl rfl ?_
        refine q_iload_n hG rfl rfl ?_
        refine q_iconst (v := 2) hG rfl rfl ?_
        refine q_callV6 hG rfl rfl rfl (by assumption) (s_R_cN (x := p) (w := 2) hm0 (by omega) (by decide) ?_)
        rw [show cR I m p 2 = R (29 + 5 * p + 2) from hR0 _ (by omega)]
        refine q_iconst (v := 3) hG rfl rfl ?_
        refine q_callV6 hG rfl rfl rfl (by assumption) (s_R_d (w := 3) hm0 ⟨by omega, by omega⟩ (by decide) ?_)
        rw [show dR I m (R (29 + 5 * p + 2)).toNat 3 = R (5 + 4 * (R (29 + 5 * p + 2)).toNat + 3) from hR0 _ (by omega)]
        refine q_icmp_gt hG rfl ⟨by omega, by omega⟩ ⟨by omega, by omega⟩ (fun hc28 => ?_) (fun hc28 => ?_)
        · refine q_iload_n hG rfl rfl ?_
          refine q_iret0 hG rfl rfl ?_
          refine hq2 n hn.1 (by omega) ?_
          rw [hi]
          exact ⟨fun e x2 y2 a b c d => by
            by_cases ex : x2 = x
            · rw [ex]; exact e.2 y2 c (by omega)
            · exact e.1 x2 a (by omega) y2 c d, fun e => ⟨fun x2 a b y2 c d => e x2 y2 a (by omega) c d, fun y2 c d => e x y2 hx.1 hx.2 c (by omega)⟩⟩
        · refine q_aload_n hG rfl rfl ?_
          refine q_aload_n hG rfl rfl ?_
          refine q_iload_n hG rfl rfl ?_
          refine q_iconst (v := 3) hG rfl rfl ?_
          refine q_callV6 hG rfl rfl rfl (by assumption) (s_R_cN (x := p) (w := 3) hm0 (by omega) (by decide) ?_)
          rw [show cR I m p 3 = R (29 + 5 * p + 3) from hR0 _ (by omega)]
          refine q_iconst (v := 2) hG rfl rfl ?_
          refine q_callV6 hG rfl rfl rfl (by assumption) (s_R_d (w := 2) hm0 ⟨by omega, by omega⟩ (by decide) ?_)
          rw [show dR I m (R (29 + 5 * p + 3)).toNat 2 = R (5 + 4 * (R (29 + 5 * p + 3)).toNat + 2) from hR0 _ (by omega)]
          refine q_istore hG rfl rfl ?_
          refine ih _ (by omega) (x + 1) _ n rfl (by omega) (by omega) (by omega) ?_
          rw [all_up (by omega)]
          refine ⟨fun e => ⟨⟨(hi.mp e).1, fun y2 h1 h2 => (hi.mp e).2 y2 h1 (by omega)⟩, fun y2 h1 h2 => by omega⟩, fun e => hi.mpr ⟨e.1.1, fun y2 h1 h2 => e.1.2 y2 h1 (by omega)⟩⟩
      · refine q_iload_n hG rfl rfl ?_
        refine q_aload_n hG rfl rfl ?_
        refine q_iload_n hG rfl rfl ?_
        refine q_iconst (v := 1) hG rfl rfl ?_
        refine q_callV6 hG rfl rfl rfl (by assumption) (s_R_cN (x := p) (w := 1) hm0 (by omega) (by decide) ?_)
        rw [show cR I m p 1 = R (29 + 5 * p + 1) from hR0 _ (by omega)]
        refine q_iload hG rfl rfl ?_
        refine q_iload hG rfl rfl ?_
        refine q_aload_n hG rfl rfl ?_
        refine q_iload_n hG rfl rfl ?_
        refine q_iconst (v := 4) hG rfl rfl ?_
        refine q_callV6 hG rfl rfl rfl (by assumption) (s_R_cN (x := p) (w := 4) hm0 (by omega) (by decide) ?_)
        rw [show cR I m p 4 = R (29 + 5 * p + 4) from hR0 _ (by omega)]
        refine q_callS0 hG rfl rfl rfl (s_R_holds ⟨by omega, by omega⟩ ⟨by omega, by omega⟩ ⟨by omega, by omega⟩ ⟨by omega, by omega⟩ (fun ho => ?_) (fun ho => ?_))
        · refine q_iload_n hG rfl rfl ?_
          refine q_icmp_ne hG rfl ⟨by omega, by omega⟩ ⟨by omega, by omega⟩ (fun hc81 => ?_) (fun hc81 => ?_)
          · refine q_iconst (v := 0) hG rfl rfl ?_
            refine q_iadd hG rfl ?_
            refine q_istore_n hG rfl rfl ?_
            refine q_iinc (c := 1) hG rfl rfl rfl rfl ?_
            refine q_goto hG rfl ?_
            refine ih _ (by omega) x (y + 1) _ rfl hx (by omega) (by omega) ?_
            rw [all_up (by omega)]
            have Qy : ¬ (hoP (R (29 + 5 * p + 1)) x y (R (29 + 5 * p + 4)) ↔ z = 1) := fun e => by have := e.mp ho; omega
            exact ⟨fun e => ⟨(hi.mp (by omega)).1, (hi.mp (by omega)).2, Qy⟩, fun e => by have := hi.mpr ⟨e.1, e.2.1⟩; omega⟩
          · refine q_iconst (v := 1) hG rfl rfl ?_
            refine q_goto hG rfl ?_
            refine q_iadd hG rfl ?_
            refine q_istore_n hG rfl rfl ?_
            refine q_iinc (c := 1) hG rfl rfl rfl rfl ?_
            refine q_goto hG rfl ?_
            refine ih _ (by omega) x (y + 1) _ rfl hx (by omega) (by omega) ?_
            rw [all_up (by omega)]
            have Qy : (hoP (R (29 + 5 * p + 1)) x y (R (29 + 5 * p + 4)) ↔ z = 1) := ⟨fun _ => by omega, fun _ => ho⟩
            exact ⟨fun e => by omega, fun e => absurd Qy e.2.2⟩
        · refine q_iload_n hG rfl rfl ?_
          refine q_icmp_ne hG rfl ⟨by omega, by omega⟩ ⟨by omega, by omega⟩ (fun hc81 => ?_) (fun hc81 => ?_)
          · refine q_iconst (v := 0) hG rfl rfl ?_
            refine q_iadd hG rfl ?_
            refine q_istore_n hG rfl rfl ?_
            refine q_iinc (c := 1) hG rfl rfl rfl rfl ?_
            refine q_goto hG rfl ?_
            refine ih _ (by omega) x (y + 1) _ rfl hx (by omega) (by omega) ?_
            rw [all_up (by omega)]
            have Qy : ¬ (hoP (R (29 + 5 * p + 1)) x y (R (29 + 5 * p + 4)) ↔ z = 1) := fun e => ho (e.mpr (by omega))
            exact ⟨fun e => ⟨(hi.mp (by omega)).1, (hi.mp (by omega)).2, Qy⟩, fun e => by have := hi.mpr ⟨e.1, e.2.1⟩; omega⟩
          · refine q_iconst (v := 1) hG rfl rfl ?_
            refine q_goto hG rfl ?_
            refine q_iadd hG rfl ?_
            refine q_istore_n hG rfl rfl ?_
            refine q_iinc (c := 1) hG rfl rfl rfl rfl ?_
            refine q_goto hG rfl ?_
            refine ih _ (by omega) x (y + 1) _ rfl hx (by omega) (by omega) ?_
            rw [all_up (by omega)]
            have Qy : (hoP (R (29 + 5 * p + 1)) x y (R (29 + 5 * p + 4)) ↔ z = 1) := ⟨fun e => absurd e ho, fun e => by omega⟩
            exact ⟨fun e => by omega, fun e => absurd Qy e.2.2⟩
  show G 0 [some (.ref m), some (.int (i3 ((p : Int)))), some (.int (i3 (z))), none, none, none] [] (wI B I)
  refine q_iconst (v := 0) hG rfl rfl ?_
  refine q_istore_n hG rfl rfl ?_
  refine q_aload_n hG rfl rfl ?_
  refine q_aload_n hG rfl rfl ?_
  refine q_iload_n hG rfl rfl ?_
  refine q_iconst (v := 2) hG rfl rfl ?_
  refine q_callV6 hG rfl rfl rfl (by assumption) (s_R_cN (x := p) (w := 2) hm0 (by omega) (by decide) ?_)
  rw [show cR I m p 2 = R (29 + 5 * p + 2) from hR0 _ (by omega)]
  refine q_iconst (v := 2) hG rfl rfl ?_
  refine q_callV6 hG rfl rfl rfl (by assumption) (s_R_d (w := 2) hm0 ⟨by omega, by omega⟩ (by decide) ?_)
  rw [show dR I m (R (29 + 5 * p + 2)).toNat 2 = R (5 + 4 * (R (29 + 5 * p + 2)).toNat + 2) from hR0 _ (by omega)]
  refine q_istore hG rfl rfl ?_
  refine q_iload hG rfl rfl ?_
  refine q_aload_n hG rfl rfl ?_
  refine q_aload_n hG rfl rfl ?_
  refine q_iload_n hG rfl rfl ?_
  refine q_iconst (v := 2) hG rfl rfl ?_
  refine q_callV6 hG rfl rfl rfl (by assumption) (s_R_cN (x := p) (w := 2) hm0 (by omega) (by decide) ?_)
  rw [show cR I m p 2 = R (29 + 5 * p + 2) from hR0 _ (by omega)]
  refine q_iconst (v := 3) hG rfl rfl ?_
  refine q_callV6 hG rfl rfl rfl (by assumption) (s_R_d (w := 3) hm0 ⟨by omega, by omega⟩ (by decide) ?_)
  rw [show dR I m (R (29 + 5 * p + 2)).toNat 3 = R (5 + 4 * (R (29 + 5 * p + 2)).toNat + 3) from hR0 _ (by omega)]
  refine q_icmp_gt hG rfl ⟨by omega, by omega⟩ ⟨by omega, by omega⟩ (fun hc28 => ?_) (fun hc28 => ?_)
  · refine q_iload_n hG rfl rfl ?_
    refine q_iret0 hG rfl rfl ?_
    omega
  · refine q_aload_n hG rfl rfl ?_
    refine q_aload_n hG rfl rfl ?_
    refine q_iload_n hG rfl rfl ?_
    refine q_iconst (v := 3) hG rfl rfl ?_
    refine q_callV6 hG rfl rfl rfl (by assumption) (s_R_cN (x := p) (w := 3) hm0 (by omega) (by decide) ?_)
    rw [show cR I m p 3 = R (29 + 5 * p + 3) from hR0 _ (by omega)]
    refine q_iconst (v := 2) hG rfl rfl ?_
    refine q_callV6 hG rfl rfl rfl (by assumption) (s_R_d (w := 2) hm0 ⟨by omega, by omega⟩ (by decide) ?_)
    rw [show dR I m (R (29 + 5 * p + 3)).toNat 2 = R (5 + 4 * (R (29 + 5 * p + 3)).toNat + 2) from hR0 _ (by omega)]
    refine q_istore hG rfl rfl ?_
    refine lq _ _ _ 0 rfl (by omega) (by omega) (by omega) ?_
    exact ⟨fun _ => ⟨fun x2 h1 h2 => by omega, fun y2 h1 h2 => by omega⟩, fun _ => rfl⟩
theorem s_R_isSafe {d : Nat} {B : HP} {I : IM} {Post : Out → HP → Prop} {m : Nat} (hm : oM B m) {R : RW} {q : Int} (hR : RepM I m 0 R) (hW : WfR q R) (hq : q ≤ 2000000000) {x : Int} (hv : r32 x) (pE : noR R x → Post (.inl (some (.int (i3 0)))) (wI B (st I m 0 1))) (p1 : ∀ p : Nat, fdR R x p → alR R p → Post (.inl (some (.int (i3 1)))) (wI B (st I m 0 0))) (p0 : ∀ p : Nat, fdR R x p → ¬ alR R p → Post (.inl (some (.int (i3 0)))) (wI B (st I m 0 0))) : Sp (d + 3) k_X9_isSafe [.ref m, .int (i3 (x))] (wI B I) Post := by
  refine Sp_intro md_X9_isSafe rfl rfl (fun G hG => ?_)
  have hm0 := hm
  obtain ⟨n1, n2, n3, n4, n5, n6, n7, n8, n9, n10, n11⟩ := hm
  have hR0 : ∀ j, j < 79 → I (m + 1) j = R j := hR.at
  have hRs : ∀ z : Int, ∀ j, j < 79 → st I m 0 z (m + 1) j = R j := fun z j hj => by rw [st_row _ _ (by omega)]; exact hR0 j hj
  have hW0 := hW
  obtain ⟨w0, w1, w2, w3, w4, wd, wc⟩ := hW
  have hdb : ∀ k, k < 6 → (0 ≤ R (5 + 4 * k + 2) ∧ R (5 + 4 * k + 2) ≤ 40) ∧ (0 ≤ R (5 + 4 * k + 3) ∧ R (5 + 4 * k + 3) ≤ 40) ∧ R (5 + 4 * k + 2) ≤ R (5 + 4 * k + 3) := fun k hk => by have u := (wd k hk).1; omega
  have rlr : ∀ z : Int, ∀ k : Nat, (k : Int) < st I m 0 z (m + 1) 1 → r32 (cR (st I m 0 z) m k 0) := fun z k hk => by
    rw [hRs z 1 (by omega)] at hk
    rw [show cR (st I m 0 z) m k 0 = R (29 + 5 * k) from hRs z _ (by omega)]
    have g := (wc k hk).1
    exact ⟨by omega, by omega⟩
  have rl0 : ∀ k : Nat, (k : Int) < I (m + 1) 1 → r32 (cR I m k 0) := fun k hk => by
    rw [hR0 1 (by omega)] at hk
    rw [show cR I m k 0 = R (29 + 5 * k) from hR0 _ (by omega)]
    have g := (wc k hk).1
    exact ⟨by omega, by omega⟩
  have fe : ∀ (K : IM) (x : Int) (p : Nat), (∀ j, j < 79 → K (m + 1) j = R j) → fst (fun k => cR K m k 0 = x) (K (m + 1) 1).toNat p → fdR R x p := fun K x p hK hf => by
    rw [hK 1 (by omega)] at hf
    exact fst_c (fun k hk => by rw [show cR K m k 0 = R (29 + 5 * k) from hK _ (by omega)]) hf
  have ne : ∀ (K : IM) (x : Int), (∀ j, j < 79 → K (m + 1) j = R j) → (∀ k, k < (K (m + 1) 1).toNat → ¬ cR K m k 0 = x) → noR R x := fun K x hK hf k hk z => by
    rw [hK 1 (by omega)] at hf
    exact hf k hk (by rw [show cR K m k 0 = R (29 + 5 * k) from hK _ (by omega)]; exact z)
  have hRm : RepM (st I m 0 0) m 0 R := RepM.of (hRs 0)
  show G 0 [some (.ref m), some (.int (i3 (x)))] [] (wI B I)
  refine q_aload_n hG rfl rfl ?_
  refine q_aload_n hG rfl rfl ?_
  refine q_iload_n hG rfl rfl ?_
  refine q_callV6 hG rfl rfl rfl (by assumption) (s_R_rule hm0 hv (by rw [hR0 1 (by omega)]; exact w1) rl0 (fun p hf => ?_) (fun hf => ?_))
  · have hf := fe I x p hR0 hf
    have hpl := hf.1
    refine q_if_lt hG rfl ⟨by omega, by omega⟩ (fun hc6 => ?_) (fun hc6 => ?_)
    · refine q_iconst (v := 0) hG rfl rfl ?_
      refine q_callV6 hG rfl rfl rfl (by assumption) (s_R_fine0 hm0 ?_)
      refine q_if_eq hG rfl ⟨by omega, by omega⟩ (fun _ => ?_) (fun q => absurd (by decide) q)
      refine q_iconst (v := 0) hG rfl rfl ?_
      refine q_iret5 hG rfl rfl (by decide) ?_
      first
      | exact pE hf
      | exact p0 _ hf (fun t => by have := eA.mpr t; omega)
      | (exfalso; omega)
    · refine q_iconst (v := 1) hG rfl rfl ?_
      refine q_goto hG rfl ?_
      refine q_callV6 hG rfl rfl rfl (by assumption) (s_R_fine1 hm0 ?_)
      refine q_if_eq hG rfl ⟨by omega, by omega⟩ (fun q => absurd q (by decide)) (fun _ => ?_)
      refine q_aload_n hG rfl rfl ?_
      refine q_aload_n hG rfl rfl ?_
      refine q_iload_n hG rfl rfl ?_
      refine q_callV6 hG rfl rfl rfl (by assumption) (s_R_rule (I := (st I m 0 0)) hm0 hv (by rw [hRs 0 1 (by omega)]; exact w1) (rlr 0) (fun p2 hf2 => ?_) (fun hf2 => ?_))
      · have hpl := hf.1
        have hf2 := fe (st I m 0 0) x p2 (hRs 0) hf2
        have ep : p2 = p := fst_u hf2 hf
        subst ep
        refine q_iconst (v := 0) hG rfl rfl ?_
        refine q_callV6 hG rfl rfl rfl (by assumption) (s_R_pairs (I := (st I m 0 0)) (p := p2) (z := 0) hm0 hRm hW0 hq (by omega) (by omega) (fun n hn1 hn2 hi => ?_))
        have hgg : ¬ R (29 + 5 * p2 + 1) = 60 → ¬ R (29 + 5 * p2 + 1) = 61 → 1 ≤ R (29 + 5 * p2 + 4) := fun a b => (wc p2 (by have := hf2.1; omega)).2.2.2.2.2.2 (by have := (wc p2 (by have := hf2.1; omega)).2.1; omega)
        have gF := (wc p2 (by have := hf2.1; omega)).2.2.1
        have gS := (wc p2 (by have := hf2.1; omega)).2.2.2.1
        have f1 := hdb (R (29 + 5 * p2 + 2)).toNat (by omega)
        have f2 := hdb (R (29 + 5 * p2 + 3)).toNat (by omega)
        have eA : n = 0 ↔ alR R p2 := by
          rw [hi]
          unfold alR
          rw [alwP_iff f1.2.2 f2.2.2 hgg]
          constructor
          · intro e x y a b c d
            exact Classical.byContradiction (fun t => e x y a b c d ⟨fun u => absurd u t, fun u => by omega⟩)
          · intro e x y a b c d t
            exact absurd (t.mp (e x y a b c d)) (by decide)
        refine q_if_ne hG rfl ⟨by omega, by omega⟩ (fun hc30 => ?_) (fun hc30 => ?_)
        · refine q_iconst (v := 0) hG rfl rfl ?_
          refine q_iret5 hG rfl rfl (by decide) ?_
          first
          | exact pE hf
          | exact p0 _ hf (fun t => by have := eA.mpr t; omega)
          | (exfalso; omega)
        · refine q_iconst (v := 1) hG rfl rfl ?_
          refine q_goto hG rfl ?_
          refine q_iret5 hG rfl rfl (by decide) ?_
          exact p1 _ hf (eA.mp (by omega))
      · exact absurd hf.2.1 (ne (st I m 0 0) x (hRs 0) hf2 p hf.1)
  · have hf := ne I x hR0 hf
    refine q_if_lt hG rfl ⟨by omega, by omega⟩ (fun _ => ?_) (fun q => absurd (by decide) q)
    refine q_iconst (v := 0) hG rfl rfl ?_
    refine q_callV6 hG rfl rfl rfl (by assumption) (s_R_fine0 hm0 ?_)
    refine q_if_eq hG rfl ⟨by omega, by omega⟩ (fun _ => ?_) (fun q => absurd (by decide) q)
    refine q_iconst (v := 0) hG rfl rfl ?_
    refine q_iret5 hG rfl rfl (by decide) ?_
    first
    | exact pE hf
    | exact p0 _ hf (fun t => by have := eA.mpr t; omega)
    | (exfalso; omega)
theorem s_R_isBroken {d : Nat} {B : HP} {I : IM} {Post : Out → HP → Prop} {m : Nat} (hm : oM B m) {R : RW} {q : Int} (hR : RepM I m 0 R) (hW : WfR q R) (hq : q ≤ 2000000000) {x : Int} (hv : r32 x) (pE : noR R x → Post (.inl (some (.int (i3 0)))) (wI B (st I m 0 1))) (p1 : ∀ p : Nat, fdR R x p → nvR R p → Post (.inl (some (.int (i3 1)))) (wI B (st I m 0 0))) (p0 : ∀ p : Nat, fdR R x p → ¬ nvR R p → Post (.inl (some (.int (i3 0)))) (wI B (st I m 0 0))) : Sp (d + 3) k_X9_isBroken [.ref m, .int (i3 (x))] (wI B I) Post := by
  refine Sp_intro md_X9_isBroken rfl rfl (fun G hG => ?_)
  have hm0 := hm
  obtain ⟨n1, n2, n3, n4, n5, n6, n7, n8, n9, n10, n11⟩ := hm
  have hR0 : ∀ j, j < 79 → I (m + 1) j = R j := hR.at
  have hRs : ∀ z : Int, ∀ j, j < 79 → st I m 0 z (m + 1) j = R j := fun z j hj => by rw [st_row _ _ (by omega)]; exact hR0 j hj
  have hW0 := hW
  obtain ⟨w0, w1, w2, w3, w4, wd, wc⟩ := hW
  have hdb : ∀ k, k < 6 → (0 ≤ R (5 + 4 * k + 2) ∧ R (5 + 4 * k + 2) ≤ 40) ∧ (0 ≤ R (5 + 4 * k + 3) ∧ R (5 + 4 * k + 3) ≤ 40) ∧ R (5 + 4 * k + 2) ≤ R (5 + 4 * k + 3) := fun k hk => by have u := (wd k hk).1; omega
  have rlr : ∀ z : Int, ∀ k : Nat, (k : Int) < st I m 0 z (m + 1) 1 → r32 (cR (st I m 0 z) m k 0) := fun z k hk => by
    rw [hRs z 1 (by omega)] at hk
    rw [show cR (st I m 0 z) m k 0 = R (29 + 5 * k) from hRs z _ (by omega)]
    have g := (wc k hk).1
    exact ⟨by omega, by omega⟩
  have rl0 : ∀ k : Nat, (k : Int) < I (m + 1) 1 → r32 (cR I m k 0) := fun k hk => by
    rw [hR0 1 (by omega)] at hk
    rw [show cR I m k 0 = R (29 + 5 * k) from hR0 _ (by omega)]
    have g := (wc k hk).1
    exact ⟨by omega, by omega⟩
  have fe : ∀ (K : IM) (x : Int) (p : Nat), (∀ j, j < 79 → K (m + 1) j = R j) → fst (fun k => cR K m k 0 = x) (K (m + 1) 1).toNat p → fdR R x p := fun K x p hK hf => by
    rw [hK 1 (by omega)] at hf
    exact fst_c (fun k hk => by rw [show cR K m k 0 = R (29 + 5 * k) from hK _ (by omega)]) hf
  have ne : ∀ (K : IM) (x : Int), (∀ j, j < 79 → K (m + 1) j = R j) → (∀ k, k < (K (m + 1) 1).toNat → ¬ cR K m k 0 = x) → noR R x := fun K x hK hf k hk z => by
    rw [hK 1 (by omega)] at hf
    exact hf k hk (by rw [show cR K m k 0 = R (29 + 5 * k) from hK _ (by omega)]; exact z)
  have hRm : RepM (st I m 0 0) m 0 R := RepM.of (hRs 0)
  show G 0 [some (.ref m), some (.int (i3 (x)))] [] (wI B I)
  refine q_aload_n hG rfl rfl ?_
  refine q_aload_n hG rfl rfl ?_
  refine q_iload_n hG rfl rfl ?_
  refine q_callV6 hG rfl rfl rfl (by assumption) (s_R_rule hm0 hv (by rw [hR0 1 (by omega)]; exact w1) rl0 (fun p hf => ?_) (fun hf => ?_))
  · have hf := fe I x p hR0 hf
    have hpl := hf.1
    refine q_if_lt hG rfl ⟨by omega, by omega⟩ (fun hc6 => ?_) (fun hc6 => ?_)
    · refine q_iconst (v := 0) hG rfl rfl ?_
      refine q_callV6 hG rfl rfl rfl (by assumption) (s_R_fine0 hm0 ?_)
      refine q_if_eq hG rfl ⟨by omega, by omega⟩ (fun _ => ?_) (fun q => absurd (by decide) q)
      refine q_iconst (v := 0) hG rfl rfl ?_
      refine q_iret5 hG rfl rfl (by decide) ?_
      first
      | exact pE hf
      | exact p0 _ hf (fun t => by have := eA.mpr t; omega)
      | (exfalso; omega)
    · refine q_iconst (v := 1) hG rfl rfl ?_
      refine q_goto hG rfl ?_
      refine q_callV6 hG rfl rfl rfl (by assumption) (s_R_fine1 hm0 ?_)
      refine q_if_eq hG rfl ⟨by omega, by omega⟩ (fun q => absurd q (by decide)) (fun _ => ?_)
      refine q_aload_n hG rfl rfl ?_
      refine q_aload_n hG rfl rfl ?_
      refine q_iload_n hG rfl rfl ?_
      refine q_callV6 hG rfl rfl rfl (by assumption) (s_R_rule (I := (st I m 0 0)) hm0 hv (by rw [hRs 0 1 (by omega)]; exact w1) (rlr 0) (fun p2 hf2 => ?_) (fun hf2 => ?_))
      · have hpl := hf.1
        have hf2 := fe (st I m 0 0) x p2 (hRs 0) hf2
        have ep : p2 = p := fst_u hf2 hf
        subst ep
        refine q_iconst (v := 1) hG rfl rfl ?_
        refine q_callV6 hG rfl rfl rfl (by assumption) (s_R_pairs (I := (st I m 0 0)) (p := p2) (z := 1) hm0 hRm hW0 hq (by omega) (by omega) (fun n hn1 hn2 hi => ?_))
        have hgg : ¬ R (29 + 5 * p2 + 1) = 60 → ¬ R (29 + 5 * p2 + 1) = 61 → 1 ≤ R (29 + 5 * p2 + 4) := fun a b => (wc p2 (by have := hf2.1; omega)).2.2.2.2.2.2 (by have := (wc p2 (by have := hf2.1; omega)).2.1; omega)
        have gF := (wc p2 (by have := hf2.1; omega)).2.2.1
        have gS := (wc p2 (by have := hf2.1; omega)).2.2.2.1
        have f1 := hdb (R (29 + 5 * p2 + 2)).toNat (by omega)
        have f2 := hdb (R (29 + 5 * p2 + 3)).toNat (by omega)
        have eA : n = 0 ↔ nvR R p2 := by
          rw [hi]
          unfold nvR
          rw [nevP_iff f1.2.2 f2.2.2]
          constructor
          · intro e x y a b c d
            exact fun t => e x y a b c d ⟨fun _ => rfl, fun _ => t⟩
          · intro e x y a b c d t
            exact e x y a b c d (t.mpr rfl)
        refine q_if_ne hG rfl ⟨by omega, by omega⟩ (fun hc30 => ?_) (fun hc30 => ?_)
        · refine q_iconst (v := 0) hG rfl rfl ?_
          refine q_iret5 hG rfl rfl (by decide) ?_
          first
          | exact pE hf
          | exact p0 _ hf (fun t => by have := eA.mpr t; omega)
          | (exfalso; omega)
        · refine q_iconst (v := 1) hG rfl rfl ?_
          refine q_goto hG rfl ?_
          refine q_iret5 hG rfl rfl (by decide) ?_
          exact p1 _ hf (eA.mp (by omega))
      · exact absurd hf.2.1 (ne (st I m 0 0) x (hRs 0) hf2 p hf.1)
  · have hf := ne I x hR0 hf
    refine q_if_lt hG rfl ⟨by omega, by omega⟩ (fun _ => ?_) (fun q => absurd (by decide) q)
    refine q_iconst (v := 0) hG rfl rfl ?_
    refine q_callV6 hG rfl rfl rfl (by assumption) (s_R_fine0 hm0 ?_)
    refine q_if_eq hG rfl ⟨by omega, by omega⟩ (fun _ => ?_) (fun q => absurd (by decide) q)
    refine q_iconst (v := 0) hG rfl rfl ?_
    refine q_iret5 hG rfl rfl (by decide) ?_
    first
    | exact pE hf
    | exact p0 _ hf (fun t => by have := eA.mpr t; omega)
    | (exfalso; omega)
def mfz (I J : IM) (m : Nat) : Prop := (∀ a, a ≠ m → a ≠ m + 1 → J a = I a) ∧ (∀ k, k ≠ 0 → k ≠ 4 → k ≠ 8 → k ≠ 9 → k ≠ 10 → k ≠ 11 → J m k = I m k) ∧ ∀ j, (79 ≤ j ∧ j < 869 ∨ 948 ≤ j) → J (m + 1) j = I (m + 1) j
theorem mfr.z {I J : IM} {m : Nat} (h : mfr I J m) : mfz I J m := ⟨h.1, fun k _ b c d e f => h.2.1 k b c d e f, h.2.2⟩
theorem mfz.trans {I J K : IM} {m : Nat} (h : mfz I J m) (h2 : mfz J K m) : mfz I K m := ⟨fun a p q => (h2.1 a p q).trans (h.1 a p q), fun k o p q r s t => (h2.2.1 k o p q r s t).trans (h.2.1 k o p q r s t), fun j p => (h2.2.2 j p).trans (h.2.2 j p)⟩
theorem mfz.t (I : IM) (m : Nat) (v : Int) : mfz I (st I m 0 v) m := ⟨fun a p q => st_row _ _ p, fun k o p q r s t => st_ne _ _ (by omega), fun j p => by rw [st_row _ _ (by omega)]⟩
theorem cp_mfr {I J : IM} {m b : Nat} (hb : b = 0 ∨ b = 11) (h2 : ∀ j, (j < 79 * b ∨ 79 * b + 79 ≤ j) → J (m + 1) j = I (m + 1) j) (h3 : ∀ a, a ≠ m + 1 → J a = I a) : mfr I J m := ⟨fun a p q => h3 a q, fun k p q r s t => by rw [h3 m (by omega)], fun j hj => h2 j (by omega)⟩

theorem s_R_would {d : Nat} {B : HP} {I : IM} {Post : Out → HP → Prop} {m : Nat} (hm : oM B m) {R : RW} {q : Int} (hR : RepM I m 0 R) (hW : WfR q R) (hq : q ≤ 2000000000)  (p1 : (paR R 1).2 = none → ∀ J : IM, RepM J m 0 R → mfr I J m → Post (.inl (some (.int (i3 ((paR R 1).1.2.2))))) (wI B J)) (p0 : ∀ p : Nat, (paR R 1).2 = some p → ∀ J : IM, RepM J m 0 R → mfr I J m → Post (.inl (some (.int (i3 (-1))))) (wI B J)) : Sp (d + 7) k_X9_would [.ref m] (wI B I) Post := by
  refine Sp_intro md_X9_would rfl rfl (fun G hG => ?_)
  have hm0 := hm
  obtain ⟨n1, n2, n3, n4, n5, n6, n7, n8, n9, n10, n11⟩ := hm
  have hR0 : ∀ j, j < 79 → I (m + 1) j = R j := hR.at
  have hRs : ∀ z : Int, ∀ j, j < 79 → st I m 0 z (m + 1) j = R j := fun z j hj => by rw [st_row _ _ (by omega)]; exact hR0 j hj
  have hW0 := hW
  obtain ⟨w0, w1, w2, w3, w4, wd, wc⟩ := hW
  have hdb : ∀ k, k < 6 → (0 ≤ R (5 + 4 * k + 2) ∧ R (5 + 4 * k + 2) ≤ 40) ∧ (0 ≤ R (5 + 4 * k + 3) ∧ R (5 + 4 * k + 3) ≤ 40) ∧ R (5 + 4 * k + 2) ≤ R (5 + 4 * k + 3) := fun k hk => by have u := (wd k hk).1; omega
  show G 0 [some (.ref m), none] [] (wI B I)
  refine q_aload_n hG rfl rfl ?_
  refine q_iconst (v := 0) hG rfl rfl ?_
  refine q_bipush (v := 11) hG rfl rfl ?_
  refine q_callV6 hG rfl rfl rfl (by assumption) (s_R_copies (a := 0) (b := 11) hm0 (by decide) (by decide) (fun J1 a1 a2 a3 => ?_))
  have hT : ∀ j, j < 79 → J1 (m + 1) (869 + j) = R j := fun j hj => by
    have := a1 j hj
    rw [show 79 * 11 + j = 869 + j by omega, show 79 * 0 + j = j by omega] at this
    rw [this]
    exact hR0 j hj
  have hK : ∀ j, j < 79 → st J1 m 10 0 (m + 1) j = R j := fun j hj => by rw [st_row _ _ (by omega), a2 j (by omega)]; exact hR0 j hj
  obtain ⟨hag, hwf, hok, hn0, hcn⟩ := ref_trial hK hW0 hq (st_same _ _ _ _)
  refine q_aload_n hG rfl rfl ?_
  refine q_iconst (v := 0) hG rfl rfl ?_
  refine q_putI0 hG rfl (by assumption) ?_
  refine q_aload_n hG rfl rfl ?_
  refine q_iconst (v := 0) hG rfl rfl ?_
  refine q_callV6 hG rfl rfl rfl (by assumption) (s_R_goes (wa := 1) hm0 (Or.inr ⟨rfl, rfl⟩) hwf hok (fun J2 e1 e2 hf => ?_) (fun J2 p e1 e1b hf => ?_))
  · rw [hn0] at e1 e2
    obtain ⟨ag, aq⟩ := paM_ag (wa := 1) hcn (R 1).toNat 0 _ _ (by omega) hag
    refine q_istore_n hG rfl rfl ?_
    refine q_aload_n hG rfl rfl ?_
    refine q_bipush (v := 11) hG rfl rfl ?_
    refine q_iconst (v := 0) hG rfl rfl ?_
    refine q_callV6 hG rfl rfl rfl (by assumption) (s_R_copies (a := 11) (b := 0) hm0 (by decide) (by decide) (fun J3 b1 b2 b3 => ?_))
    have hE : RepM J3 m 0 R := RepM.of (fun j hj => by
      have := b1 j hj
      rw [show 79 * 11 + j = 869 + j by omega, show 79 * 0 + j = j by omega] at this
      rw [this, hf.2.2 _ (by omega), st_row _ _ (by omega)]
      exact hT j hj)
    have hz := (((cp_mfr (Or.inr rfl) a2 a3).trans (mfr.fld (v := 0) (k := 10) (by omega))).trans hf.m).trans (cp_mfr (Or.inl rfl) b2 b3)
    refine q_iload_n hG rfl rfl ?_
    refine q_if_ge hG rfl ⟨by omega, by omega⟩ (fun q => absurd q (by decide)) (fun _ => ?_)
    refine q_aload_n hG rfl rfl ?_
    refine q_getI0v (v := (paR R 1).1.2.2) hG rfl (by assumption) (by rw [b3 m (by omega), ← ag.2]; exact congrArg (fun z => z.2.2) e2) ?_
    refine q_goto hG rfl ?_
    refine q_iret0 hG rfl rfl ?_
    exact p1 (by rw [← aq]; exact e1) J3 hE hz
  · rw [hn0] at e1 e1b
    obtain ⟨ag, aq⟩ := paM_ag (wa := 1) hcn (R 1).toNat 0 _ _ (by omega) hag
    refine q_istore_n hG rfl rfl ?_
    refine q_aload_n hG rfl rfl ?_
    refine q_bipush (v := 11) hG rfl rfl ?_
    refine q_iconst (v := 0) hG rfl rfl ?_
    refine q_callV6 hG rfl rfl rfl (by assumption) (s_R_copies (a := 11) (b := 0) hm0 (by decide) (by decide) (fun J3 b1 b2 b3 => ?_))
    have hE : RepM J3 m 0 R := RepM.of (fun j hj => by
      have := b1 j hj
      rw [show 79 * 11 + j = 869 + j by omega, show 79 * 0 + j = j by omega] at this
      rw [this, hf.2.2 _ (by omega), st_row _ _ (by omega)]
      exact hT j hj)
    have hz := (((cp_mfr (Or.inr rfl) a2 a3).trans (mfr.fld (v := 0) (k := 10) (by omega))).trans hf.m).trans (cp_mfr (Or.inl rfl) b2 b3)
    refine q_iload_n hG rfl rfl ?_
    refine q_if_ge hG rfl ⟨by omega, by omega⟩ (fun hc26 => ?_) (fun hc26 => absurd (by omega) hc26)
    refine q_iconst (v := -1) hG rfl rfl ?_
    refine q_iret0 hG rfl rfl ?_
    exact p0 p (by rw [← aq]; exact e1) J3 hE hz
theorem s_R_isSettled {d : Nat} {B : HP} {I : IM} {Post : Out → HP → Prop} {m : Nat} (hm : oM B m) {R : RW} {q : Int} (hR : RepM I m 0 R) (hW : WfR q R) (hq : q ≤ 2000000000)  (p1 : (paR R 1).2 = none → (paR R 1).1.2.2 = 0 → ∀ J : IM, RepM J m 0 R → J m 0 = 0 → mfz I J m → Post (.inl (some (.int (i3 1)))) (wI B J)) (p0 : ¬ ((paR R 1).2 = none ∧ (paR R 1).1.2.2 = 0) → ∀ J : IM, RepM J m 0 R → J m 0 = 0 → mfz I J m → Post (.inl (some (.int (i3 0)))) (wI B J)) : Sp (d + 8) k_X9_isSettled [.ref m] (wI B I) Post := by
  refine Sp_intro md_X9_isSettled rfl rfl (fun G hG => ?_)
  have hm0 := hm
  obtain ⟨n1, n2, n3, n4, n5, n6, n7, n8, n9, n10, n11⟩ := hm
  have hR0 : ∀ j, j < 79 → I (m + 1) j = R j := hR.at
  have hRs : ∀ z : Int, ∀ j, j < 79 → st I m 0 z (m + 1) j = R j := fun z j hj => by rw [st_row _ _ (by omega)]; exact hR0 j hj
  have hW0 := hW
  obtain ⟨w0, w1, w2, w3, w4, wd, wc⟩ := hW
  have hdb : ∀ k, k < 6 → (0 ≤ R (5 + 4 * k + 2) ∧ R (5 + 4 * k + 2) ≤ 40) ∧ (0 ≤ R (5 + 4 * k + 3) ∧ R (5 + 4 * k + 3) ≤ 40) ∧ R (5 + 4 * k + 2) ≤ R (5 + 4 * k + 3) := fun k hk => by have u := (wd k hk).1; omega
  show G 0 [some (.ref m)] [] (wI B I)
  refine q_aload_n hG rfl rfl ?_
  refine q_iconst (v := 0) hG rfl rfl ?_
  refine q_putI0 hG rfl (by assumption) ?_
  refine q_aload_n hG rfl rfl ?_
  refine q_callV6 hG rfl rfl rfl (by assumption) (s_R_would hm0 (RepM.of (fun j hj => by rw [st_row _ _ (by omega)]; exact hR0 j hj)) hW0 hq (fun h6 J hE hz => ?_) (fun p h6 J hE hz => ?_))
  · have pb := pa_bd hW0 h6
    have hJ0 : J m 0 = 0 := by rw [hz.2.1 0 (by omega) (by omega) (by omega) (by omega) (by omega), st_same]
    have hzz := (mfz.t I m 0).trans hz.z
    refine q_if_ne hG rfl ⟨by omega, by omega⟩ (fun hc9 => ?_) (fun hc9 => ?_)
    · refine q_iconst (v := 0) hG rfl rfl ?_
      refine q_iret5 hG rfl rfl (by decide) ?_
      first
      | exact p0 (fun z => by have := z.2; omega) J hE hJ0 hzz
      | exact p0 (fun z => by rw [h6] at z; cases z.1) J hE hJ0 hzz
    · refine q_iconst (v := 1) hG rfl rfl ?_
      refine q_goto hG rfl ?_
      refine q_iret5 hG rfl rfl (by decide) ?_
      exact p1 h6 (by omega) J hE hJ0 hzz
  · have hJ0 : J m 0 = 0 := by rw [hz.2.1 0 (by omega) (by omega) (by omega) (by omega) (by omega), st_same]
    have hzz := (mfz.t I m 0).trans hz.z
    refine q_if_ne hG rfl ⟨by omega, by omega⟩ (fun _ => ?_) (fun q => absurd (by decide) q)
    refine q_iconst (v := 0) hG rfl rfl ?_
    refine q_iret5 hG rfl rfl (by decide) ?_
    first
    | exact p0 (fun z => by have := z.2; omega) J hE hJ0 hzz
    | exact p0 (fun z => by rw [h6] at z; cases z.1) J hE hJ0 hzz
theorem s_R_wouldChange {d : Nat} {B : HP} {I : IM} {Post : Out → HP → Prop} {m : Nat} (hm : oM B m) {R : RW} {q : Int} (hR : RepM I m 0 R) (hW : WfR q R) (hq : q ≤ 2000000000)  (p1 : (paR R 1).2 = none → ∀ J : IM, RepM J m 0 R → J m 0 = 0 → mfz I J m → Post (.inl (some (.int (i3 ((paR R 1).1.2.2))))) (wI B J)) (pE : ∀ p : Nat, (paR R 1).2 = some p → ∀ J : IM, RepM J m 0 R → J m 0 = 1 → mfz I J m → Post (.inl (some (.int (i3 0)))) (wI B J)) : Sp (d + 8) k_X9_wouldChange [.ref m] (wI B I) Post := by
  refine Sp_intro md_X9_wouldChange rfl rfl (fun G hG => ?_)
  have hm0 := hm
  obtain ⟨n1, n2, n3, n4, n5, n6, n7, n8, n9, n10, n11⟩ := hm
  have hR0 : ∀ j, j < 79 → I (m + 1) j = R j := hR.at
  have hRs : ∀ z : Int, ∀ j, j < 79 → st I m 0 z (m + 1) j = R j := fun z j hj => by rw [st_row _ _ (by omega)]; exact hR0 j hj
  have hW0 := hW
  obtain ⟨w0, w1, w2, w3, w4, wd, wc⟩ := hW
  have hdb : ∀ k, k < 6 → (0 ≤ R (5 + 4 * k + 2) ∧ R (5 + 4 * k + 2) ≤ 40) ∧ (0 ≤ R (5 + 4 * k + 3) ∧ R (5 + 4 * k + 3) ≤ 40) ∧ R (5 + 4 * k + 2) ≤ R (5 + 4 * k + 3) := fun k hk => by have u := (wd k hk).1; omega
  show G 0 [some (.ref m), none] [] (wI B I)
  refine q_aload_n hG rfl rfl ?_
  refine q_callV6 hG rfl rfl rfl (by assumption) (s_R_would hm0 hR hW0 hq (fun h6 J hE hz => ?_) (fun p h6 J hE hz => ?_))
  · have pb := pa_bd hW0 h6
    refine q_istore_n hG rfl rfl ?_
    refine q_aload_n hG rfl rfl ?_
    refine q_iload_n hG rfl rfl ?_
    refine q_if_lt hG rfl ⟨by omega, by omega⟩ (fun hc7 => absurd hc7 (by omega)) (fun hc7 => ?_)
    refine q_iconst (v := 1) hG rfl rfl ?_
    refine q_goto hG rfl ?_
    refine q_callV6 hG rfl rfl rfl (by assumption) (s_R_fine1 hm0 ?_)
    refine q_if_eq hG rfl ⟨by omega, by omega⟩ (fun q => absurd q (by decide)) (fun _ => ?_)
    refine q_iload_n hG rfl rfl ?_
    refine q_goto hG rfl ?_
    refine q_iret0 hG rfl rfl ?_
    first
    | exact p1 h6 _ (hE.row (fun j h1 h2 => by rw [st_row _ _ (by omega)])) (st_same _ _ _ _) (hz.z.trans (mfz.t _ _ _))
    | exact pE p h6 _ (hE.row (fun j h1 h2 => by rw [st_row _ _ (by omega)])) (st_same _ _ _ _) (hz.z.trans (mfz.t _ _ _))
  · refine q_istore_n hG rfl rfl ?_
    refine q_aload_n hG rfl rfl ?_
    refine q_iload_n hG rfl rfl ?_
    refine q_if_lt hG rfl ⟨by omega, by omega⟩ (fun _ => ?_) (fun q => absurd (by decide) q)
    refine q_iconst (v := 0) hG rfl rfl ?_
    refine q_callV6 hG rfl rfl rfl (by assumption) (s_R_fine0 hm0 ?_)
    refine q_if_eq hG rfl ⟨by omega, by omega⟩ (fun _ => ?_) (fun q => absurd (by decide) q)
    refine q_iconst (v := 0) hG rfl rfl ?_
    refine q_iret0 hG rfl rfl ?_
    first
    | exact p1 h6 _ (hE.row (fun j h1 h2 => by rw [st_row _ _ (by omega)])) (st_same _ _ _ _) (hz.z.trans (mfz.t _ _ _))
    | exact pE p h6 _ (hE.row (fun j h1 h2 => by rw [st_row _ _ (by omega)])) (st_same _ _ _ _) (hz.z.trans (mfz.t _ _ _))
