/-! the class: least heights -/
theorem onM_ag {c c' : CN} {sd sd' : Nat → Int} {n : Nat} (h : ∀ p, p < n → c p = c' p ∧ sd p = sd' p) : ∀ (r p : Nat) (s : HT), p + r ≤ n → onM c sd r p s = onM c' sd' r p s
  | 0, _, _, _ => rfl
  | r + 1, p, s, hn => by
    obtain ⟨e1, e2⟩ := h p (by omega)
    show onM c sd r (p + 1) (alM (c p).1 (c p).2.1 (c p).2.2.1 (c p).2.2.2 (sd p) s) = onM c' sd' r (p + 1) (alM (c' p).1 (c' p).2.1 (c' p).2.2.1 (c' p).2.2.2 (sd' p) s)
    rw [e1, e2]
    exact onM_ag h r (p + 1) _ (by omega)
theorem clM_ag {c c' : CN} {sd sd' : Nat → Int} {n : Nat} (h : ∀ p, p < n → c p = c' p ∧ sd p = sd' p) : ∀ (k : Nat) (f : Nat → Int), clM c sd n k f = clM c' sd' n k f
  | 0, _ => rfl
  | k + 1, f => by
    rw [clM, clM, onM_ag h n 0 (f, 0) (by omega)]
    split
    · rfl
    · exact clM_ag h k _
theorem satM_sd {c : CN} {sd sd' : Nat → Int} {n : Nat} (h : ∀ p, p < n → sd p = sd' p) {p : Nat → Int} : satM c sd n p ↔ satM c sd' n p :=
  ⟨fun q k hk => by rw [← h k hk]; exact q k hk, fun q k hk => by rw [h k hk]; exact q k hk⟩
theorem satM_cg {c : CN} {sd : Nat → Int} {n D : Nat} (hc : ∀ p, p < n → (c p).2.1 < D ∧ (c p).2.2.1 < D) {p p' : Nat → Int} (e : ∀ k, k < D → p k = p' k) (h : satM c sd n p) : satM c sd n p' := fun k hk => by
  have a := h k hk
  obtain ⟨f, s⟩ := hc k hk
  unfold edg at a ⊢
  rw [← e _ f, ← e _ s]
  exact a
/-- heights within bounds that keep all constraints, those apart by their sides -/
def pcS (R : RW) (s : PT) (sd p : Nat → Int) : Prop := satM (cnR R) sd (R 1).toNat p ∧ inP s p
def lsS (R : RW) (s : PT) (sd L : Nat → Int) : Prop := pcS R s sd L ∧ ∀ p, pcS R s sd p → ∀ k, k < 6 → L k ≤ p k
abbrev pcR (R : RW) : (Nat → Int) → (Nat → Int) → Prop := pcS R (ptR R)
abbrev lsR (R : RW) : (Nat → Int) → (Nat → Int) → Prop := lsS R (ptR R)
theorem lsS.eq {R : RW} {s : PT} {sd L L' : Nat → Int} (h : lsS R s sd L) (h' : lsS R s sd L') : ∀ k, k < 6 → L k = L' k := fun k hk => Int.le_antisymm (h.2 _ h'.1 k hk) (h'.2 _ h.1 k hk)
theorem pcS_cg {R : RW} {q : Int} (hW : WfR q R) {s : PT} {sd p p' : Nat → Int} (e : ∀ k, k < 6 → p k = p' k) (h : pcS R s sd p) : pcS R s sd p' :=
  ⟨satM_cg (wfR_6 hW) e h.1, fun k hk => by rw [← e k hk]; exact h.2 k hk⟩
theorem pcS_sd {R : RW} {s : PT} {sd sd' : Nat → Int} (h : ∀ p, p < (R 1).toNat → sd p = sd' p) (p : Nat → Int) : pcS R s sd p ↔ pcS R s sd' p := ⟨fun q => ⟨(satM_sd h).mp q.1, q.2⟩, fun q => ⟨(satM_sd h).mpr q.1, q.2⟩⟩
theorem lsS_sd {R : RW} {s : PT} {sd sd' : Nat → Int} (h : ∀ p, p < (R 1).toNat → sd p = sd' p) {L : Nat → Int} (hL : lsS R s sd L) : lsS R s sd' L := ⟨(pcS_sd h L).mp hL.1, fun p hp => hL.2 p ((pcS_sd h p).mpr hp)⟩
theorem wfR_D {q : Int} {R : RW} (h : WfR q R) : ∀ p, p < (R 1).toNat → (cnR R p).2.1 < (R 0).toNat ∧ (cnR R p).2.2.1 < (R 0).toNat := fun p hp => by
  obtain ⟨-, -, a, b, -⟩ := h.2.2.2.2.2.2 p (by omega)
  exact ⟨by show (R (29 + 5 * p + 2)).toNat < _; omega, by show (R (29 + 5 * p + 3)).toNat < _; omega⟩
theorem wfR_k {q : Int} {R : RW} (h : WfR q R) : kOK (cnR R) (R 1).toNat := fun p hp => ⟨wfR_6 h p hp, (h.2.2.2.2.2.2 p (by omega)).2.1⟩
theorem settle_ls {q : Int} {R : RW} (hW : WfR q R) : ((stR2 R 0).1 = none → lsR R sd0 (stR2 R 0).2.1.1) ∧ ((stR2 R 0).1 ≠ none → ∀ p, ¬ pcR R sd0 p) := by
  obtain ⟨a, b⟩ := settle_least (wfR_k hW) (ptR_ok hW) 0
  refine ⟨fun e => ?_, fun e p hp => b e p hp.1 hp.2⟩
  obtain ⟨L, hL, hk⟩ := a e
  have hin : inP (ptR R) L := fun k k6 => ⟨hL.2.1 k, (hk k k6).2⟩
  have e6 : ∀ k, k < 6 → L k = (stR2 R 0).2.1.1 k := fun k k6 => (hk k k6).1
  refine ⟨pcS_cg hW e6 ⟨hL.1, hin⟩, fun p hp k k6 => ?_⟩
  rw [← e6 k k6]
  have hp' : satM (cnR R) sd0 (R 1).toNat (fun j => if j < 6 then p j else L j) := satM_cg (wfR_6 hW) (fun j hj => (if_pos hj).symm) hp.1
  have z := hL.2.2 _ hp' (fun j => by
    show (ptR R).1 j ≤ if j < 6 then p j else L j
    split
    · rename_i h; exact (hp.2 j h).1
    · exact hL.2.1 j) k
  have z : L k ≤ if k < 6 then p k else L k := z
  rw [if_pos k6] at z
  exact z
theorem climb_ls {q : Int} {R : RW} (hW : WfR q R) {s : PT} (hok : okB s) {sd f : Nat → Int} {T : HT} (hf : ∀ k, k < 6 → f k = s.1 k) (e : clM (cnR R) sd (R 1).toNat ((R 0).toNat + 1) f = T) : (T.2 = 0 → (∀ k : Nat, (k : Int) < R 0 → T.1 k ≤ s.2.1 k) → lsS R s sd T.1) ∧ ((T.2 = 0 → ∃ k : Nat, (k : Int) < R 0 ∧ s.2.1 k < T.1 k) → ∀ p, ¬ pcS R s sd p) := by
  have hD6 := hW.1
  obtain ⟨a, b⟩ := clM_iff (c := cnR R) (sd := sd) (n := (R 1).toNat) (D := (R 0).toNat) (f := f) (wfR_D hW) (by omega)
  rw [e] at a b
  have ext : ∀ p, pcS R s sd p → satM (cnR R) sd (R 1).toNat (fun j => if j < 6 then p j else f j) ∧ leF f (fun j => if j < 6 then p j else f j) := fun p hp => ⟨satM_cg (wfR_6 hW) (fun j hj => (if_pos hj).symm) hp.1, fun j => by
    show f j ≤ if j < 6 then p j else f j
    split
    · rename_i h; rw [hf j h]; exact (hp.2 j h).1
    · exact Int.le_refl _⟩
  have low : T.2 = 0 → ∀ p, pcS R s sd p → ∀ k, k < 6 → T.1 k ≤ p k := fun h0 p hp k k6 => by
    obtain ⟨x1, x2⟩ := ext p hp
    have z := (a h0).2.2 _ x1 x2 k
    have z : T.1 k ≤ if k < 6 then p k else f k := z
    rw [if_pos k6] at z
    exact z
  refine ⟨fun h0 hk => ⟨⟨(a h0).1, fun k k6 => ?_⟩, low h0⟩, fun h p hp => ?_⟩
  · refine ⟨by rw [← hf k k6]; exact (a h0).2.1 k, ?_⟩
    by_cases hd : (k : Int) < R 0
    · exact hk k hd
    · have hs : satM (cnR R) sd (R 1).toNat (fun j => if j < (R 0).toNat then T.1 j else f j) := satM_cg (wfR_D hW) (fun j hj => (if_pos hj).symm) (a h0).1
      have z := (a h0).2.2 _ hs (fun j => by
        show f j ≤ if j < (R 0).toNat then T.1 j else f j
        split
        · exact (a h0).2.1 j
        · exact Int.le_refl _) k
      have z : T.1 k ≤ if k < (R 0).toNat then T.1 k else f k := z
      rw [if_neg (by omega), hf k k6] at z
      have o := (hok k k6).2.1
      omega
  · by_cases h0 : T.2 = 0
    · obtain ⟨k, k1, k2⟩ := h h0
      have z := low h0 p hp k (by omega)
      have o := (hp.2 k (by omega)).2
      omega
    · obtain ⟨x1, x2⟩ := ext p hp
      exact b h0 _ x1 x2

theorem LX.oP {B : HP} (hX : LX B) {L : Nat} (hL : L = 150 ∨ L = 155) : oP B L := by
  rcases hL with rfl | rfl
  · exact ⟨hX.2.2.2.2.2.2.2.2.2.2.2.2.2.2.1, hX.2.2.2.2.2.2.2.2.2.2.2.2.2.2.2.1, hX.2.2.2.2.2.2.2.2.2.2.2.2.2.2.2.2.1, hX.2.2.2.2.2.2.2.2.2.2.2.2.2.2.2.2.2.1, hX.2.2.2.2.2.2.2.2.2.2.2.2.2.2.2.2.2.2.1⟩
  · exact ⟨hX.2.2.2.2.2.2.2.2.2.2.2.2.2.2.2.2.2.2.2.2.2.2.2.1, hX.2.2.2.2.2.2.2.2.2.2.2.2.2.2.2.2.2.2.2.2.2.2.2.2.1, hX.2.2.2.2.2.2.2.2.2.2.2.2.2.2.2.2.2.2.2.2.2.2.2.2.2.1, hX.2.2.2.2.2.2.2.2.2.2.2.2.2.2.2.2.2.2.2.2.2.2.2.2.2.2.1, hX.2.2.2.2.2.2.2.2.2.2.2.2.2.2.2.2.2.2.2.2.2.2.2.2.2.2.2.1⟩
theorem s_X_climb {d : Nat} {B : HP} {I : IM} {Post : Out → HP → Prop} (hX : LX B) {R : RW} (hR : RepC I 1 R) {q : Int} (hW : WfR q R) (hq : q ≤ 2000000000) {L : Nat} (hL : L = 150 ∨ L = 155) {b : Nat} (hbb : b = 5 ∨ b = 146) {s : PT} (hok : okB s) (hlo : ∀ k, k < 6 → I (b + 1) k = s.1 k ∧ I (b + 2) k = s.2.1 k) (hsd : ∀ p, p < 10 → 0 ≤ I (L + 2) p ∧ I (L + 2) p ≤ 2)
    (p1 : ∀ J : IM, lsS R s (I (L + 2)) (J (L + 1)) → hbd 2000 (J (L + 1)) → (∀ a, a ≠ L + 1 → J a = I a) → Post (.inl (some (.int (i3 1)))) (wI B J)) (p0 : ∀ J : IM, (∀ p, ¬ pcS R s (I (L + 2)) p) → (∀ a, a ≠ L + 1 → J a = I a) → Post (.inl (some (.int (i3 0)))) (wI B J)) :
    Sp (d + 4) k_X4_climb [.ref L, .ref 8, .ref b, .int (i3 (R 0))] (wI B I) Post := by
  have hX0 := hX
  have hW0 := hW
  have hR0 := hR
  obtain ⟨r0, r1, r2, r3, r4, rd, rc, ry⟩ := hR
  have r1 : I 8 0 = R 1 := r1
  have hw0 := hW.1
  have hw1 := hW.2.1
  have elo : ∀ k, k < 6 → I (b + 1) k = s.1 k := fun k hk => (hlo k hk).1
  have ehi : ∀ k, k < 6 → I (b + 2) k = s.2.1 k := fun k hk => (hlo k hk).2
  have hL2 : L = 150 ∨ L = 155 := hL
  have hcl : clM (cnI I 8) (I (L + 2)) (I 8 0).toNat ((R 0).toNat + 1) (cpR I b L) = clM (cnR R) (I (L + 2)) (R 1).toNat ((R 0).toNat + 1) (cpR I b L) := by
    rw [r1]
    exact clM_ag (fun p hp => ⟨hR0.cn p (by omega), rfl⟩) _ _
  obtain ⟨cA, cB⟩ := climb_ls hW0 hok (sd := I (L + 2)) (f := cpR I b L) (fun k hk => by unfold cpR; rw [if_pos hk]; exact elo k hk) rfl
  refine s_L_climb (L := L) (c := 8) (b := b) (x := R 0) (hX0.oP hL) hX0.2.2.2.2.2.2.2.2.2.2.1.2.2.2.2.2.2 (by rcases hbb with rfl | rfl; exact hX0.2.2.2.2.2.2.2.2.2.2.1.2.2.2.2.2.1; exact hX0.2.2.2.2.2.2.2.2.2.2.2.2.1) (by omega) (by omega) (hR0.cWF hW0 hq) (fun k hk => ?_) hw0 (fun k hk => ?_) hsd (fun J e0 e1 e2 e3 e4 => ?_) (fun J e0 e1 => ?_)
  · show 0 ≤ I (b + 1) k ∧ I (b + 1) k ≤ 40
    rw [elo k hk]
    have o := hok k hk
    omega
  · show r32 (I (b + 2) k)
    rw [ehi k hk]
    have o := hok k hk
    exact ⟨by omega, by omega⟩
  · rw [hcl] at e0 e1 e3
    refine p1 J ?_ e2 e4
    rw [e1]
    exact cA e0 (fun k hk => by rw [← ehi k (by omega)]; exact e3 k hk)
  · rw [hcl] at e0
    refine p0 J (cB (fun h => ?_)) e1
    obtain ⟨k, k1, k2⟩ := e0 h
    exact ⟨k, k1, by rw [← ehi k (by omega)]; exact k2⟩
def trf (I J : IM) : Prop := ∀ a, a ≤ 145 ∨ a = 152 ∨ 157 ≤ a → J a = I a
theorem trf.refl (I : IM) : trf I I := fun _ _ => rfl
theorem s_X_lowestHeight {d : Nat} {B : HP} {I : IM} {Post : Out → HP → Prop} (hX : LX B) {R : RW} (hR : RepC I 1 R) {q : Int} (hW : WfR q R) (hq : q ≤ 2000000000) {x : Int} (hv : r32 x) (pE : ¬ (0 ≤ x ∧ x < R 0) → Post (.inr 2) (wI (junk B 6) I)) (p1 : 0 ≤ x ∧ x < R 0 → (stR2 R 0).1 = none → ∀ J : IM, trf I J → Post (.inl (some (.int (i3 ((stR2 R 0).2.1.1 x.toNat))))) (wI B J)) (p0 : 0 ≤ x ∧ x < R 0 → (stR2 R 0).1 ≠ none → ∀ J : IM, trf I J → Post (.inr 3) (wI (junk B 6) J)) : Sp (d + 6) k_X8_lowestHeight [.ref 0, .int (i3 (x))] (wI B I) Post := by
  refine Sp_intro md_X8_lowestHeight rfl rfl (fun G hG => ?_)
  have hX0 := hX
  obtain ⟨x0, x1, x2, x3, x4, x5, x6, x7, x8, x9, x10, x11, x12, x13, x14, x15, x16, x17, x18, x19, x20, x21, x22, x23, x24, x25, x26, x27, x28, x29, x30, x31, x32, x33, x34, x35, x36, x37, x38, x39, x40, x41, x42, x43, x44⟩ := hX
  obtain ⟨d1, d2, d3, d4, hF, hBd, hCo⟩ := x10
  obtain ⟨f1, f2, f3, f4, f5⟩ := hF
  obtain ⟨g1, g2, g3, g4, g5⟩ := hBd
  obtain ⟨c1, c2, c3, c4, c5, c6, c7, c8, c9, c10, c11⟩ := hCo
  obtain ⟨t1, t2, t3, t4, t5⟩ := x12
  have hR0 := hR
  obtain ⟨r0, r1, r2, r3, r4, rd, rc, ry⟩ := hR
  have r1 : I 8 0 = R 1 := r1
  have r2 : I 8 1 = R 2 := r2
  have rd : ∀ k, k < 6 → I 3 k = R (5 + 4 * k) ∧ I 4 k = R (5 + 4 * k + 1) ∧ I 6 k = R (5 + 4 * k + 2) ∧ I 7 k = R (5 + 4 * k + 3) := rd
  have rc : ∀ k : Nat, (k : Int) < R 1 → I 9 k = R (29 + 5 * k) ∧ I 10 k = R (29 + 5 * k + 1) ∧ I 11 k = R (29 + 5 * k + 2) ∧ I 12 k = R (29 + 5 * k + 3) ∧ I 13 k = R (29 + 5 * k + 4) := rc
  have ry : ∀ k, k < 10 → 0 ≤ I 10 k ∧ I 10 k < 65536 := ry
  have hW0 := hW
  obtain ⟨w0, w1, w2, w3, w4, wd, wc⟩ := hW
  show G 0 [some (.ref 0), some (.int (i3 (x)))] [] (wI B I)
  refine q_aload_n hG rfl rfl ?_
  refine q_iload_n hG rfl rfl ?_
  refine q_callV6 hG rfl rfl rfl (by assumption) (s_X_ckDoor hX0 hR0 hW0 hq hv (fun hx1 hx2 => ?_) (fun hx => ?_))
  · obtain ⟨u1, u2, u3, u4⟩ := rd x.toNat (by omega)
    have uw := (wd x.toNat (by omega)).1
    refine q_aload_n hG rfl rfl ?_
    refine q_callV6 hG rfl rfl rfl (by assumption) (s_X_settleTrial hX0 hR0 hW0 hq (fun e0 J j1 j2 => ?_) (fun p e0 J j1 => ?_))
    · refine q_if_ne hG rfl ⟨by omega, by omega⟩ (fun _ => ?_) (fun q => absurd (by decide) q)
      refine q_aload_n hG rfl rfl ?_
      refine q_getR hG rfl (by assumption) (by assumption) ?_
      refine q_getR hG rfl (by assumption) (by assumption) ?_
      refine q_iload_n hG rfl rfl ?_
      refine q_ialdv (v := (stR2 R 0).2.1.1 x.toNat) hG rfl (by assumption) ⟨by omega, by omega, by omega⟩ (j2 x.toNat (by omega)) ?_
      refine q_iret0 hG rfl rfl ?_
      exact p1 ⟨hx1, hx2⟩ e0 J (fun a ha => j1 a (by omega))
    · refine q_if_ne hG rfl ⟨by omega, by omega⟩ (fun q => absurd q (by decide)) (fun _ => ?_)
      refine q_throw hG rfl ?_
      exact p0 ⟨hx1, hx2⟩ (by rw [e0]; exact fun z => by cases z) J (fun a ha => j1 a (by omega))
  · exact pE hx
theorem s_X_lowestByPaths {d : Nat} {B : HP} {I : IM} {Post : Out → HP → Prop} (hX : LX B) {R : RW} (hR : RepC I 1 R) {q : Int} (hW : WfR q R) (hq : q ≤ 2000000000) {x : Int} (hv : r32 x) (hz : ∀ k, k < 10 → I 152 k = 0) (pE : ¬ (0 ≤ x ∧ x < R 0) → Post (.inr 2) (wI (junk B 6) I)) (p1 : 0 ≤ x ∧ x < R 0 → (stR2 R 0).1 = none → ∀ J : IM, trf I J → Post (.inl (some (.int (i3 ((stR2 R 0).2.1.1 x.toNat))))) (wI B J)) (p0 : 0 ≤ x ∧ x < R 0 → (stR2 R 0).1 ≠ none → ∀ J : IM, trf I J → Post (.inr 3) (wI (junk B 6) J)) : Sp (d + 6) k_X8_lowestHeightByPaths [.ref 0, .int (i3 (x))] (wI B I) Post := by
  refine Sp_intro md_X8_lowestHeightByPaths rfl rfl (fun G hG => ?_)
  have hX0 := hX
  obtain ⟨x0, x1, x2, x3, x4, x5, x6, x7, x8, x9, x10, x11, x12, x13, x14, x15, x16, x17, x18, x19, x20, x21, x22, x23, x24, x25, x26, x27, x28, x29, x30, x31, x32, x33, x34, x35, x36, x37, x38, x39, x40, x41, x42, x43, x44⟩ := hX
  obtain ⟨d1, d2, d3, d4, hF, hBd, hCo⟩ := x10
  obtain ⟨f1, f2, f3, f4, f5⟩ := hF
  obtain ⟨g1, g2, g3, g4, g5⟩ := hBd
  obtain ⟨c1, c2, c3, c4, c5, c6, c7, c8, c9, c10, c11⟩ := hCo
  obtain ⟨t1, t2, t3, t4, t5⟩ := x12
  have hR0 := hR
  obtain ⟨r0, r1, r2, r3, r4, rd, rc, ry⟩ := hR
  have r1 : I 8 0 = R 1 := r1
  have r2 : I 8 1 = R 2 := r2
  have rd : ∀ k, k < 6 → I 3 k = R (5 + 4 * k) ∧ I 4 k = R (5 + 4 * k + 1) ∧ I 6 k = R (5 + 4 * k + 2) ∧ I 7 k = R (5 + 4 * k + 3) := rd
  have rc : ∀ k : Nat, (k : Int) < R 1 → I 9 k = R (29 + 5 * k) ∧ I 10 k = R (29 + 5 * k + 1) ∧ I 11 k = R (29 + 5 * k + 2) ∧ I 12 k = R (29 + 5 * k + 3) ∧ I 13 k = R (29 + 5 * k + 4) := rc
  have ry : ∀ k, k < 10 → 0 ≤ I 10 k ∧ I 10 k < 65536 := ry
  have hW0 := hW
  obtain ⟨w0, w1, w2, w3, w4, wd, wc⟩ := hW
  obtain ⟨sN, sS⟩ := settle_ls hW0
  show G 0 [some (.ref 0), some (.int (i3 (x)))] [] (wI B I)
  refine q_aload_n hG rfl rfl ?_
  refine q_iload_n hG rfl rfl ?_
  refine q_callV6 hG rfl rfl rfl (by assumption) (s_X_ckDoor hX0 hR0 hW0 hq hv (fun hx1 hx2 => ?_) (fun hx => ?_))
  · obtain ⟨u1, u2, u3, u4⟩ := rd x.toNat (by omega)
    have uw := (wd x.toNat (by omega)).1
    refine q_aload_n hG rfl rfl ?_
    refine q_getR hG rfl (by assumption) (by assumption) ?_
    refine q_aload_n hG rfl rfl ?_
    refine q_getR hG rfl (by assumption) (by assumption) ?_
    refine q_getR hG rfl (by assumption) (by assumption) ?_
    refine q_aload_n hG rfl rfl ?_
    refine q_getR hG rfl (by assumption) (by assumption) ?_
    refine q_getR hG rfl (by assumption) (by assumption) ?_
    refine q_aload_n hG rfl rfl ?_
    refine q_getR hG rfl (by assumption) (by assumption) ?_
    refine q_getI0v (v := R 0) hG rfl (by assumption) (r0) ?_
    refine q_callV6 hG rfl rfl rfl (by assumption) (s_X_climb hX0 hR0 hW0 hq (Or.inl rfl) (Or.inl rfl) (ptR_ok hW0) (fun k hk => ⟨(rd k hk).2.2.1, (rd k hk).2.2.2⟩) (fun p hp => by show 0 ≤ I 152 p ∧ I 152 p ≤ 2; rw [hz p hp]; omega) (fun J e0 e1 j1 => ?_) (fun J e0 j1 => ?_))
    · have e2 : lsR R sd0 (J 151) := lsS_sd (fun p hp => hz p (by omega)) e0
      refine q_if_ne hG rfl ⟨by omega, by omega⟩ (fun _ => ?_) (fun q => absurd (by decide) q)
      have eN : (stR2 R 0).1 = none := Classical.byContradiction fun z => sS z _ e2.1
      refine q_aload_n hG rfl rfl ?_
      refine q_getR hG rfl (by assumption) (by assumption) ?_
      refine q_getR hG rfl (by assumption) (by assumption) ?_
      refine q_iload_n hG rfl rfl ?_
      refine q_ialdv (v := (stR2 R 0).2.1.1 x.toNat) hG rfl (by assumption) ⟨by omega, by omega, by omega⟩ ((e2.eq (sN eN)) x.toNat (by omega)) ?_
      refine q_iret0 hG rfl rfl ?_
      exact p1 ⟨hx1, hx2⟩ eN J (fun a ha => j1 a (by omega))
    · have e2 : ∀ p, ¬ pcR R sd0 p := fun p hp => e0 p ((pcS_sd (fun p hp => hz p (by omega)) p).mpr hp)
      refine q_if_ne hG rfl ⟨by omega, by omega⟩ (fun q => absurd q (by decide)) (fun _ => ?_)
      refine q_throw hG rfl ?_
      exact p0 ⟨hx1, hx2⟩ (fun z => e2 _ (sN z).1) J (fun a ha => j1 a (by omega))
  · exact pE hx
theorem s_X_isConsistent {d : Nat} {B : HP} {I : IM} {Post : Out → HP → Prop} (hX : LX B) {R : RW} (hR : RepC I 1 R) {q : Int} (hW : WfR q R) (hq : q ≤ 2000000000) (hz : ∀ k, k < 10 → I 152 k = 0) (p1 : ∀ J : IM, trf I J → Post (.inl (some (.int (i3 1)))) (wI B J)) : Sp (d + 6) k_X8_isConsistent [.ref 0] (wI B I) Post := by
  refine Sp_intro md_X8_isConsistent rfl rfl (fun G hG => ?_)
  have hX0 := hX
  obtain ⟨x0, x1, x2, x3, x4, x5, x6, x7, x8, x9, x10, x11, x12, x13, x14, x15, x16, x17, x18, x19, x20, x21, x22, x23, x24, x25, x26, x27, x28, x29, x30, x31, x32, x33, x34, x35, x36, x37, x38, x39, x40, x41, x42, x43, x44⟩ := hX
  obtain ⟨d1, d2, d3, d4, hF, hBd, hCo⟩ := x10
  obtain ⟨f1, f2, f3, f4, f5⟩ := hF
  obtain ⟨g1, g2, g3, g4, g5⟩ := hBd
  obtain ⟨c1, c2, c3, c4, c5, c6, c7, c8, c9, c10, c11⟩ := hCo
  obtain ⟨t1, t2, t3, t4, t5⟩ := x12
  have hR0 := hR
  obtain ⟨r0, r1, r2, r3, r4, rd, rc, ry⟩ := hR
  have r1 : I 8 0 = R 1 := r1
  have r2 : I 8 1 = R 2 := r2
  have rd : ∀ k, k < 6 → I 3 k = R (5 + 4 * k) ∧ I 4 k = R (5 + 4 * k + 1) ∧ I 6 k = R (5 + 4 * k + 2) ∧ I 7 k = R (5 + 4 * k + 3) := rd
  have rc : ∀ k : Nat, (k : Int) < R 1 → I 9 k = R (29 + 5 * k) ∧ I 10 k = R (29 + 5 * k + 1) ∧ I 11 k = R (29 + 5 * k + 2) ∧ I 12 k = R (29 + 5 * k + 3) ∧ I 13 k = R (29 + 5 * k + 4) := rc
  have ry : ∀ k, k < 10 → 0 ≤ I 10 k ∧ I 10 k < 65536 := ry
  have hW0 := hW
  obtain ⟨w0, w1, w2, w3, w4, wd, wc⟩ := hW
  obtain ⟨sN, sS⟩ := settle_ls hW0
  have lp : ∀ (mz : Nat) (k : Nat) (K : IM) (z : Int), (R 0).toNat - k = mz → k ≤ (R 0).toNat → (z = 0 ∨ z = 1) → (z = 1 → hbd 2000 (K 151)) → (z = 1 → ∀ j, j < 6 → K 147 j = K 151 j) → trf I K → G 43 [some (.ref 0), some (.int (i3 z)), some (.int (i3 z)), some (.int (i3 (k : Int)))] [] (wI B K) := by
    intro mz
    induction mz using Nat.strongRecOn with
    | ind mz ih =>
      intro k K z hme hk hz01 hb2 hle htr
      refine q_iload_n hG rfl rfl ?_
      refine q_aload_n hG rfl rfl ?_
      refine q_getR hG rfl (by assumption) (by assumption) ?_
      refine q_getI0v (v := R 0) hG rfl (by assumption) (by rw [htr 1 (by omega)]; exact r0) ?_
      refine q_icmp_ge hG rfl ⟨by omega, by omega⟩ ⟨by omega, by omega⟩ (fun hc51 => ?_) (fun hc51 => ?_)
      · refine q_iconst (v := 1) hG rfl rfl ?_
        refine q_iret5 hG rfl rfl (by decide) ?_
        exact p1 K htr
      · obtain ⟨u1, u2, u3, u4⟩ := rd k (by omega)
        obtain ⟨⟨y1, y2, y3, y4, y5⟩, -⟩ := wd k (by omega)
        have t3 : K 3 k = R (5 + 4 * k) := by rw [htr 3 (by omega)]; exact u1
        have t4 : K 4 k = R (5 + 4 * k + 1) := by rw [htr 4 (by omega)]; exact u2
        have t6 : K 6 k = R (5 + 4 * k + 2) := by rw [htr 6 (by omega)]; exact u3
        have t7 : K 7 k = R (5 + 4 * k + 3) := by rw [htr 7 (by omega)]; exact u4
        have hrk : rD K 1 k := by
          show r32 (K 3 k) ∧ r32 (K 4 k) ∧ r32 (K 6 k) ∧ r32 (K 7 k)
          rw [t3, t4, t6, t7]
          exact ⟨⟨by omega, by omega⟩, ⟨by omega, by omega⟩, ⟨by omega, by omega⟩, ⟨by omega, by omega⟩⟩
        refine q_aload_n hG rfl rfl ?_
        refine q_getR hG rfl (by assumption) (by assumption) ?_
        refine q_iload_n hG rfl rfl ?_
        refine q_callV6 hG rfl rfl rfl (by assumption) (s_D_inOrder (b := 1) (I := K) hX0.2.2.2.2.2.2.2.2.2.2.1 ⟨by omega, by omega⟩ hrk (fun h1 h2 h3 => ?_) (fun h1 => ?_))
        · refine q_if_eq hG rfl ⟨by omega, by omega⟩ (fun q => absurd q (by decide)) (fun _ => ?_)
          refine q_iload_n hG rfl rfl ?_
          refine q_if_eq hG rfl ⟨by omega, by omega⟩ (fun hc66 => ?_) (fun hc66 => ?_)
          · refine q_iinc (c := 1) hG rfl rfl rfl rfl ?_
            refine q_goto hG rfl ?_
            exact ih _ (by omega) (k + 1) K z rfl (by omega) hz01 hb2 hle htr
          · have q9 := hb2 (by omega) k (by omega)
            have q8 := hle (by omega) k (by omega)
            refine q_aload_n hG rfl rfl ?_
            refine q_getR hG rfl (by assumption) (by assumption) ?_
            refine q_getR hG rfl (by assumption) (by assumption) ?_
            refine q_iload_n hG rfl rfl ?_
            refine q_ialdv (v := K 147 k) hG rfl (by assumption) ⟨by omega, by omega, by omega⟩ rfl ?_
            refine q_aload_n hG rfl rfl ?_
            refine q_getR hG rfl (by assumption) (by assumption) ?_
            refine q_getR hG rfl (by assumption) (by assumption) ?_
            refine q_iload_n hG rfl rfl ?_
            refine q_ialdv (v := K 151 k) hG rfl (by assumption) ⟨by omega, by omega, by omega⟩ rfl ?_
            refine q_icmp_eq hG rfl ⟨by omega, by omega⟩ ⟨by omega, by omega⟩ (fun hc87 => ?_) (fun hc87 => ?_)
            · refine q_iinc (c := 1) hG rfl rfl rfl rfl ?_
              refine q_goto hG rfl ?_
              exact ih _ (by omega) (k + 1) K z rfl (by omega) hz01 hb2 hle htr
            · refine q_iconst (v := 0) hG rfl rfl ?_
              refine q_iret5 hG rfl rfl (by decide) ?_
              exfalso
              first
              | (have q := hle (by omega) k (by omega); omega)
              | exact h1 ⟨by show K 6 k ≤ K 7 k; omega, by show K 3 k ≤ K 6 k; omega, by show K 7 k ≤ K 4 k; omega⟩
        · refine q_if_eq hG rfl ⟨by omega, by omega⟩ (fun _ => ?_) (fun q => absurd (by decide) q)
          refine q_iconst (v := 0) hG rfl rfl ?_
          refine q_iret5 hG rfl rfl (by decide) ?_
          exfalso
          first
          | (have q := hle (by omega) k (by omega); omega)
          | exact h1 ⟨by show K 6 k ≤ K 7 k; omega, by show K 3 k ≤ K 6 k; omega, by show K 7 k ≤ K 4 k; omega⟩
  show G 0 [some (.ref 0), none, none, none] [] (wI B I)
  refine q_aload_n hG rfl rfl ?_
  refine q_callV6 hG rfl rfl rfl (by assumption) (s_X_settleTrial hX0 hR0 hW0 hq (fun e0 J j1 j2 => ?_) (fun p e0 J j1 => ?_))
  · have hz1 : ∀ k, k < 10 → J 152 k = 0 := fun k hk => by rw [j1 152 (by omega)]; exact hz k hk
    have hRJ : RepC J 1 R := hR0.row (fun a h1 h2 => j1 a (by omega))
    refine q_istore_n hG rfl rfl ?_
    refine q_aload_n hG rfl rfl ?_
    refine q_getR hG rfl (by assumption) (by assumption) ?_
    refine q_aload_n hG rfl rfl ?_
    refine q_getR hG rfl (by assumption) (by assumption) ?_
    refine q_getR hG rfl (by assumption) (by assumption) ?_
    refine q_aload_n hG rfl rfl ?_
    refine q_getR hG rfl (by assumption) (by assumption) ?_
    refine q_getR hG rfl (by assumption) (by assumption) ?_
    refine q_aload_n hG rfl rfl ?_
    refine q_getR hG rfl (by assumption) (by assumption) ?_
    refine q_getI0v (v := R 0) hG rfl (by assumption) (by rw [j1 1 (by omega)]; exact r0) ?_
    refine q_callV6 hG rfl rfl rfl (by assumption) (s_X_climb hX0 hRJ hW0 hq (Or.inl rfl) (Or.inl rfl) (ptR_ok hW0) (fun k hk => by rw [j1 (5 + 1) (by decide), j1 (5 + 2) (by decide)]; exact ⟨(rd k hk).2.2.1, (rd k hk).2.2.2⟩) (fun p hp => by show 0 ≤ J 152 p ∧ J 152 p ≤ 2; rw [hz1 p hp]; omega) (fun K e1 e1b k1 => ?_) (fun K e1 k1 => ?_))
    · have e2 : lsR R sd0 (K 151) := lsS_sd (fun p hp => hz1 p (by omega)) e1
      refine q_istore_n hG rfl rfl ?_
      refine q_iload_n hG rfl rfl ?_
      refine q_iload_n hG rfl rfl ?_
      refine q_icmp_eq hG rfl ⟨by omega, by omega⟩ ⟨by omega, by omega⟩ (fun _ => ?_) (fun q => absurd (by decide) q)
      refine q_iconst (v := 0) hG rfl rfl ?_
      refine q_istore_n hG rfl rfl ?_
      refine lp _ 0 K 1 rfl (by omega) (Or.inr rfl) (fun _ => e1b) (fun _ j hj => ?_) (fun a ha => by rw [k1 a (by omega)]; exact j1 a (by omega))
      rw [k1 147 (by decide), j2 j hj]
      exact ((e2.eq (sN e0)) j hj).symm
    · have e2 : ∀ p, ¬ pcR R sd0 p := fun p hp => e1 p ((pcS_sd (fun p hp => hz1 p (by omega)) p).mpr hp)
      refine q_istore_n hG rfl rfl ?_
      refine q_iload_n hG rfl rfl ?_
      refine q_iload_n hG rfl rfl ?_
      refine q_icmp_eq hG rfl ⟨by omega, by omega⟩ ⟨by omega, by omega⟩ (fun q => absurd q (by decide)) (fun _ => ?_)
      refine q_iconst (v := 0) hG rfl rfl ?_
      refine q_iret5 hG rfl rfl (by decide) ?_
      exfalso
      first | exact e2 _ (sN e0).1 | exact sS (by rw [e0]; exact fun z => by cases z) _ e2.1
  · have hz1 : ∀ k, k < 10 → J 152 k = 0 := fun k hk => by rw [j1 152 (by omega)]; exact hz k hk
    have hRJ : RepC J 1 R := hR0.row (fun a h1 h2 => j1 a (by omega))
    refine q_istore_n hG rfl rfl ?_
    refine q_aload_n hG rfl rfl ?_
    refine q_getR hG rfl (by assumption) (by assumption) ?_
    refine q_aload_n hG rfl rfl ?_
    refine q_getR hG rfl (by assumption) (by assumption) ?_
    refine q_getR hG rfl (by assumption) (by assumption) ?_
    refine q_aload_n hG rfl rfl ?_
    refine q_getR hG rfl (by assumption) (by assumption) ?_
    refine q_getR hG rfl (by assumption) (by assumption) ?_
    refine q_aload_n hG rfl rfl ?_
    refine q_getR hG rfl (by assumption) (by assumption) ?_
    refine q_getI0v (v := R 0) hG rfl (by assumption) (by rw [j1 1 (by omega)]; exact r0) ?_
    refine q_callV6 hG rfl rfl rfl (by assumption) (s_X_climb hX0 hRJ hW0 hq (Or.inl rfl) (Or.inl rfl) (ptR_ok hW0) (fun k hk => by rw [j1 (5 + 1) (by decide), j1 (5 + 2) (by decide)]; exact ⟨(rd k hk).2.2.1, (rd k hk).2.2.2⟩) (fun p hp => by show 0 ≤ J 152 p ∧ J 152 p ≤ 2; rw [hz1 p hp]; omega) (fun K e1 e1b k1 => ?_) (fun K e1 k1 => ?_))
    · have e2 : lsR R sd0 (K 151) := lsS_sd (fun p hp => hz1 p (by omega)) e1
      refine q_istore_n hG rfl rfl ?_
      refine q_iload_n hG rfl rfl ?_
      refine q_iload_n hG rfl rfl ?_
      refine q_icmp_eq hG rfl ⟨by omega, by omega⟩ ⟨by omega, by omega⟩ (fun q => absurd q (by decide)) (fun _ => ?_)
      refine q_iconst (v := 0) hG rfl rfl ?_
      refine q_iret5 hG rfl rfl (by decide) ?_
      exfalso
      first | exact e2 _ (sN e0).1 | exact sS (by rw [e0]; exact fun z => by cases z) _ e2.1
    · have e2 : ∀ p, ¬ pcR R sd0 p := fun p hp => e1 p ((pcS_sd (fun p hp => hz1 p (by omega)) p).mpr hp)
      refine q_istore_n hG rfl rfl ?_
      refine q_iload_n hG rfl rfl ?_
      refine q_iload_n hG rfl rfl ?_
      refine q_icmp_eq hG rfl ⟨by omega, by omega⟩ ⟨by omega, by omega⟩ (fun _ => ?_) (fun q => absurd (by decide) q)
      refine q_iconst (v := 0) hG rfl rfl ?_
      refine q_istore_n hG rfl rfl ?_
      exact lp _ 0 K 0 rfl (by omega) (Or.inl rfl) (fun q => by omega) (fun q => by omega) (fun a ha => by rw [k1 a (by omega)]; exact j1 a (by omega))
