/-! the small machine over whole numbers: its states are wI B I, B the still parts of the heap, I its numbers -/
def i3 (v : Int) : Int32 := Int32.ofInt v
def r32 (v : Int) : Prop := -2147483648 ≤ v ∧ v < 2147483648
abbrev IM : Type := Nat → Nat → Int
def st (I : IM) (a k : Nat) (v : Int) : IM := fun b j => if b = a ∧ j = k then v else I b j
def cpM (I : IM) (src sp dst dp n : Nat) : IM := fun b j => if b = dst ∧ dp ≤ j ∧ j < dp + n then I src (sp + (j - dp)) else I b j
def zM (I : IM) (a : Nat) : IM := fun b j => if b = a then 0 else I b j
def wI (B : HP) (I : IM) : HP := (B.1, fun a i => i3 (I a i), B.2.2)
theorem i3_toInt {v : Int} (h : r32 v) : (i3 v).toInt = v := Int32.toInt_ofInt_of_le (by have := h.1; omega) (by have := h.2; omega)
theorem i3_lt {a b : Int} (ha : r32 a) (hb : r32 b) : i3 a < i3 b ↔ a < b := by rw [Int32.lt_iff_toInt_lt, i3_toInt ha, i3_toInt hb]
theorem i3_le {a b : Int} (ha : r32 a) (hb : r32 b) : i3 a ≤ i3 b ↔ a ≤ b := by rw [Int32.le_iff_toInt_le, i3_toInt ha, i3_toInt hb]
theorem i3_eq {a b : Int} (ha : r32 a) (hb : r32 b) : i3 a = i3 b ↔ a = b := ⟨fun h => by have h := congrArg Int32.toInt h; rwa [i3_toInt ha, i3_toInt hb] at h, fun h => h ▸ rfl⟩
theorem i3_of (x : Int32) : ∃ v, r32 v ∧ x = i3 v := ⟨x.toInt, ⟨by have := Int32.le_toInt x; omega, by have := Int32.toInt_lt x; omega⟩, (Int32.ofInt_toInt x).symm⟩
theorem i3_add (a b : Int) : i3 a + i3 b = i3 (a + b) := (Int32.ofInt_add a b).symm
theorem i3_sub (a b : Int) : i3 a - i3 b = i3 (a - b) := (Int32.ofInt_sub a b).symm
theorem i3_mul (a b : Int) : i3 a * i3 b = i3 (a * b) := (Int32.ofInt_mul a b).symm
theorem i3_neg (a : Int) : -i3 a = i3 (-a) := (Int32.ofInt_neg a).symm
theorem i3_0 : i3 0 = 0 := rfl
theorem r32_0 : r32 0 := ⟨by decide, by decide⟩
theorem i3_nat {n : Nat} : Int32.ofNat n = i3 (n : Int) := Int32.ofInt_eq_ofNat.symm
theorem i3_in {j : Int} {n : Nat} (h : 0 ≤ j ∧ j < (n : Int) ∧ j < 2147483648) : vp_in (i3 j) n := vp_in_iff.mpr (by rw [i3_toInt ⟨by omega, h.2.2⟩]; exact ⟨h.1, h.2.1⟩)
theorem i3_cl {j : Int} (h : r32 j) : (i3 j).toNatClampNeg = j.toNat := by
  show (i3 j).toInt.toNat = _
  rw [i3_toInt h]
theorem i3_inN {j : Int} {n : Nat} (h : 0 ≤ j ∧ j < (n : Int) ∧ j < 2147483648) : vp_in (i3 j) n ∧ (i3 j).toNatClampNeg = j.toNat := ⟨i3_in h, i3_cl ⟨by omega, h.2.2⟩⟩
theorem wI_sI (B : HP) (I : IM) (a k : Nat) (v : Int) : sI (wI B I) a k (i3 v) = wI B (st I a k v) := by
  unfold sI wI up2 st
  congr 2
  funext b j
  show (if b = a ∧ j = k then i3 v else i3 (I b j)) = i3 (if b = a ∧ j = k then v else I b j)
  split <;> rfl
theorem wI_cp (B : HP) (I : IM) (a b c d n : Nat) : cpI (wI B I) a b c d n = wI B (cpM I a b c d n) := by
  unfold cpI wI cpM
  congr 2
  funext x j
  show (if x = c ∧ d ≤ j ∧ j < d + n then i3 (I a (b + (j - d))) else i3 (I x j)) = i3 (if x = c ∧ d ≤ j ∧ j < d + n then I a (b + (j - d)) else I x j)
  split <;> rfl
theorem wI_mk (B : HP) (I : IM) (k : Nat × Nat) (n : Nat) : mk (wI B I) k n = wI (mk B k n) (zM I (hn B)) := by
  unfold mk wI zM
  congr 2
  funext x j
  show (if x = hn B then 0 else i3 (I x j)) = i3 (if x = hn B then 0 else I x j)
  split <;> rfl
theorem i3_nz {v : Int} (h : 0 ≤ v ∧ v < 65536) : vp_nar .char (i3 v) = i3 v := by
  have e : i3 v = (((i3 v).toUInt32 % 65536).toInt32) := by
    rw [pk_char]
    show i3 v = Int32.ofNat _
    rw [i3_nat]
    congr 1
    have hb : (i3 v).toBitVec = BitVec.ofInt 32 v := rfl
    rw [hb, BitVec.toNat_ofInt]
    omega
  rw [e, pk_vc]
theorem i3_c {v : Int} : ((i3 v).toUInt32 % 65536).toInt32 = i3 (v % 65536) := by
  rw [pk_char]
  show Int32.ofNat _ = _
  rw [i3_nat]
  congr 1
  have hb : (i3 v).toBitVec = BitVec.ofInt 32 v := rfl
  rw [hb, BitVec.toNat_ofInt]
  omega
theorem i3_b {v : Int} (h : -128 ≤ v ∧ v < 128) : (i3 v).toInt8.toInt32 = i3 v := by
  apply Int32.toInt_inj.mp
  rw [Int8.toInt_toInt32, Int32.toInt_toInt8, i3_toInt ⟨by omega, by omega⟩]
  exact Int.bmod_eq_of_le (by omega) (by omega)
theorem i3_nb {v : Int} (h : -128 ≤ v ∧ v < 128) : vp_nar .byte (i3 v) = i3 v := by
  rw [vp_nar_byte, i3_b h]
theorem i3_nZ {v : Int} (h : v = 0 ∨ v = 1) : vp_nar .boolean (i3 v) = i3 v := by
  rcases h with h | h <;> subst h <;> decide +kernel
theorem i3_and {v : Int} {k : Nat} {m : Int} (hk : k ≤ 31) (hm : (i3 m).toBitVec.toNat = 2 ^ k - 1) : i3 v &&& i3 m = i3 (v % 2 ^ k) := by
  rw [pk_and (i3 v) k hm]
  show Int32.ofNat _ = _
  rw [i3_nat]
  congr 1
  have hb : (i3 v).toBitVec = BitVec.ofInt 32 v := rfl
  rw [hb, BitVec.toNat_ofInt]
  have h2 : ((2 ^ 32 : Nat) : Int) = 4294967296 := by decide
  have h3 : (2 : Int) ^ k ∣ 4294967296 := by
    have : (4294967296 : Int) = 2 ^ k * 2 ^ (32 - k) := by rw [← Int.pow_add, show k + (32 - k) = 32 by omega]; decide
    exact ⟨_, this⟩
  rw [h2, Int.natCast_emod, Int.toNat_of_nonneg (by omega), Int.natCast_pow]
  exact Int.emod_emod_of_dvd v h3
theorem i3_div {a b : Int} (ha : r32 a) (hb : r32 b) (h0 : 0 < b) : i3 a / i3 b = i3 (a.tdiv b) :=
  (Int32.ofInt_tdiv (by have := ha.1; show -2147483648 ≤ a; omega) (by have := ha.2; show a ≤ 2147483647; omega) (by have := hb.1; show -2147483648 ≤ b; omega) (by have := hb.2; show b ≤ 2147483647; omega)).symm
theorem i3_n0 {a : Int} (ha : r32 a) (h0 : a ≠ 0) : ¬ i3 a = 0 := fun h => h0 ((i3_eq ha r32_0).mp h)
def swI (v : Int) : List Nat → Nat → (Nat → Prop) → Prop
  | n :: t :: l, d, K => (v = (n : Int) → K t) ∧ (¬ v = (n : Int) → swI v l d K)
  | _, d, K => K d
def swb : List Nat → Bool
  | n :: _ :: l => Nat.blt n 2147483648 && swb l
  | _ => true
theorem swI_P {v : Int} (hv : r32 v) {d : Nat} {K : Nat → Prop} : ∀ l : List Nat, swb l = true → swI v l d K → swP (i3 v) l d K
  | [], _, h => h
  | [_], _, h => h
  | n :: t :: l, hb, h => by
    have hb : (Nat.blt n 2147483648 && swb l) = true := hb
    rw [Bool.and_eq_true] at hb
    have hn : n < 2147483648 := blt_ok hb.1
    have e : (i3 v = Int32.ofNat n) ↔ v = (n : Int) := by rw [i3_nat]; exact i3_eq hv ⟨by omega, by omega⟩
    exact ⟨fun q => h.1 (e.mp q), fun q => swI_P hv l hb.2 (h.2 (fun z => q (e.mpr z)))⟩
abbrev Cl (S : SpecT) (M : MDT) (Post : Out → HP → Prop) (G : Nat → LV → List Value → HP → Prop) : Prop := ∀ pc L st A, stepP S M Post pc L st A G → G pc L st A
/-- where a call goes on -/
def cont (hh : List (Nat × Nat × Nat × Nat)) (Post : Out → HP → Prop) (pc nx : Nat) (L : LV) (G : Nat → LV → List Value → HP → Prop) (r : List Value) : Out → HP → Prop := fun o A' => match o with
    | .inl none => G nx L r A'
    | .inl (some v) => G nx L (v :: r) A'
    | .inr E => match findH hh pc E with
      | some h => G h L [.retAddr 0] A'
      | none => match hh with
        | [] => Post (.inr E) A'
        | _ => False
section
variable {S : SpecT} {M : MDT} {Post : Out → HP → Prop} {G : Nat → LV → List Value → HP → Prop}
variable {pc nx : Nat} {cst : Int32} {x : List Nat} {L : LV} {r : List Value} {A : HP} {B : HP} {I : IM}

theorem q_iconst (hG : Cl S M Post G) {j : _} {v : Int} (hl : lk pc M.1 = some (.iconst j, nx, cst, x)) (hv : cst = i3 v) (h : G nx L (.int (i3 v) :: r) A) : G pc L (r) (A) := hG _ _ _ _ (by
  unfold stepP
  rw [hl]
  subst hv
  exact h)
theorem q_bipush (hG : Cl S M Post G) {j : _} {v : Int} (hl : lk pc M.1 = some (.bipush j, nx, cst, x)) (hv : cst = i3 v) (h : G nx L (.int (i3 v) :: r) A) : G pc L (r) (A) := hG _ _ _ _ (by
  unfold stepP
  rw [hl]
  subst hv
  exact h)
theorem q_sipush (hG : Cl S M Post G) {j : _} {v : Int} (hl : lk pc M.1 = some (.sipush j, nx, cst, x)) (hv : cst = i3 v) (h : G nx L (.int (i3 v) :: r) A) : G pc L (r) (A) := hG _ _ _ _ (by
  unfold stepP
  rw [hl]
  subst hv
  exact h)
theorem q_ldc (hG : Cl S M Post G) {j : _} {v : Int} (hl : lk pc M.1 = some (.ldc j, nx, cst, [])) (hv : cst = i3 v) (h : G nx L (.int (i3 v) :: r) A) : G pc L (r) (A) := hG _ _ _ _ (by
  unfold stepP
  rw [hl]
  subst hv
  exact h)
theorem q_getst (hG : Cl S M Post G) {j : _} {v : Int} (hl : lk pc M.1 = some (.getstatic j, nx, cst, [])) (hv : cst = i3 v) (h : G nx L (.int (i3 v) :: r) A) : G pc L (r) (A) := hG _ _ _ _ (by
  unfold stepP
  rw [hl]
  subst hv
  exact h)
theorem q_ldcR (hG : Cl S M Post G) {j : _} {k : Nat} (hl : lk pc M.1 = some (.ldc j, nx, cst, k :: x)) (h : G nx L (.ref (BIG + k) :: r) A) : G pc L (r) (A) := hG _ _ _ _ (by
  unfold stepP
  rw [hl]
  exact h)
theorem q_ldcwR (hG : Cl S M Post G) {j : _} {k : Nat} (hl : lk pc M.1 = some (.ldc_w j, nx, cst, k :: x)) (h : G nx L (.ref (BIG + k) :: r) A) : G pc L (r) (A) := hG _ _ _ _ (by
  unfold stepP
  rw [hl]
  exact h)
theorem q_getstJ (hG : Cl S M Post G) {g k y iv : Nat} {n j : Int} (hl : lk pc M.1 = some (.getstatic g, nx, cst, [y, k, iv])) (hc : Nat.ble (catS r) 8 = true) (h0 : S k [.int (i3 j), .int (i3 n), .null] A (fun o A' => o = .inl (some (.int (i3 j))) ∧ A' = A)) (h1 : S k [.int (i3 j), .int (i3 n), .ref (BIG + 21)] A (fun o A' => o = .inl (some (.int (i3 j))) ∧ A' = A)) (h : G (nx + 3) L (.int (i3 j) :: r) A) : G pc L (.int (i3 n) :: .int (i3 j) :: r) A := hG _ _ _ _ (by
  unfold stepP
  rw [hl]
  exact ⟨hc, h0, h1, h⟩)
theorem q_getstR (hG : Cl S M Post G) {j : _} {k : Nat} (hl : lk pc M.1 = some (.getstatic j, nx, cst, [k])) (h : G nx L (.ref (BIG + k) :: r) A) : G pc L (r) (A) := hG _ _ _ _ (by
  unfold stepP
  rw [hl]
  exact h)
theorem q_lconst0 (hG : Cl S M Post G)  (hl : lk pc M.1 = some (.lconst 0, nx, cst, x)) (h : G nx L (.long 0 :: r) A) : G pc L (r) (A) := hG _ _ _ _ (by
  unfold stepP
  rw [hl]
  exact h)
theorem q_lconst1 (hG : Cl S M Post G)  (hl : lk pc M.1 = some (.lconst 1, nx, cst, x)) (h : G nx L (.long 1 :: r) A) : G pc L (r) (A) := hG _ _ _ _ (by
  unfold stepP
  rw [hl]
  exact h)
theorem q_ldc2 (hG : Cl S M Post G) {j : _} {n : Nat} (hl : lk pc M.1 = some (.ldc2_w j, nx, cst, [n])) (h : G nx L (.long (Int64.ofNat n) :: r) A) : G pc L (r) (A) := hG _ _ _ _ (by
  unfold stepP
  rw [hl]
  exact h)
theorem q_ldc2n (hG : Cl S M Post G) {j : _} (hl : lk pc M.1 = some (.ldc2_w j, nx, cst, [])) (h : G nx L (.long (Int64.ofInt cst.toInt) :: r) A) : G pc L (r) (A) := hG _ _ _ _ (by
  unfold stepP
  rw [hl]
  exact h)
theorem q_dconst0 (hG : Cl S M Post G)  (hl : lk pc M.1 = some (.dconst 0, nx, cst, x)) (h : G nx L (.double FP.dconst0 :: r) A) : G pc L (r) (A) := hG _ _ _ _ (by
  unfold stepP
  rw [hl]
  exact h)
theorem q_fconst0 (hG : Cl S M Post G)  (hl : lk pc M.1 = some (.fconst 0, nx, cst, x)) (h : G nx L (.float FP.fconst0 :: r) A) : G pc L (r) (A) := hG _ _ _ _ (by
  unfold stepP
  rw [hl]
  exact h)
theorem q_iload (hG : Cl S M Post G) {j : _} {k : Nat} {v : _} (hl : lk pc M.1 = some (.iload j, nx, cst, k :: x)) (hv : nth L k = some (some (.int v))) (h : G nx L (.int v :: r) A) : G pc L (r) (A) := hG _ _ _ _ (by
  unfold stepP
  rw [hl]
  show (match nth L k with | some (some (.int v)) => G nx L (.int v :: r) A | _ => False)
  rw [hv]
  exact h)
theorem q_istore (hG : Cl S M Post G) {j : _} {k : Nat} {v : _} (hl : lk pc M.1 = some (.istore j, nx, cst, k :: x)) (ho : okS L k = true) (h : G nx (L.set k (some (.int v))) r A) : G pc L (.int v :: r) (A) := hG _ _ _ _ (by
  unfold stepP
  rw [hl]
  show cond (okS L k) _ False
  rw [ho]
  exact h)
theorem q_iload_n (hG : Cl S M Post G) {j : _} {k : Nat} {v : _} (hl : lk pc M.1 = some (.iload_n j, nx, cst, k :: x)) (hv : nth L k = some (some (.int v))) (h : G nx L (.int v :: r) A) : G pc L (r) (A) := hG _ _ _ _ (by
  unfold stepP
  rw [hl]
  show (match nth L k with | some (some (.int v)) => G nx L (.int v :: r) A | _ => False)
  rw [hv]
  exact h)
theorem q_istore_n (hG : Cl S M Post G) {j : _} {k : Nat} {v : _} (hl : lk pc M.1 = some (.istore_n j, nx, cst, k :: x)) (ho : okS L k = true) (h : G nx (L.set k (some (.int v))) r A) : G pc L (.int v :: r) (A) := hG _ _ _ _ (by
  unfold stepP
  rw [hl]
  show cond (okS L k) _ False
  rw [ho]
  exact h)
theorem q_aload (hG : Cl S M Post G) {j : _} {k : Nat} {v : _} (hl : lk pc M.1 = some (.aload j, nx, cst, k :: x)) (hv : nth L k = some (some (.ref v))) (h : G nx L (.ref v :: r) A) : G pc L (r) (A) := hG _ _ _ _ (by
  unfold stepP
  rw [hl]
  show (match nth L k with | some (some (.ref v)) => G nx L (.ref v :: r) A | some (some .null) => G nx L (.null :: r) A | _ => False)
  rw [hv]
  exact h)
theorem q_astore (hG : Cl S M Post G) {j : _} {k : Nat} {v : _} (hl : lk pc M.1 = some (.astore j, nx, cst, k :: x)) (ho : okS L k = true) (h : G nx (L.set k (some (.ref v))) r A) : G pc L (.ref v :: r) (A) := hG _ _ _ _ (by
  unfold stepP
  rw [hl]
  show cond (okS L k) _ False
  rw [ho]
  exact h)
theorem q_astoreJ (hG : Cl S M Post G) {j : _} {k : Nat} {v : _} (hl : lk pc M.1 = some (.astore j, nx, cst, k :: x)) (ho : okS L k = true) (h : G nx (L.set k none) r A) : G pc L (.retAddr v :: r) (A) := hG _ _ _ _ (by
  unfold stepP
  rw [hl]
  show cond (okS L k) _ False
  rw [ho]
  exact h)
theorem q_aload_n (hG : Cl S M Post G) {j : _} {k : Nat} {v : _} (hl : lk pc M.1 = some (.aload_n j, nx, cst, k :: x)) (hv : nth L k = some (some (.ref v))) (h : G nx L (.ref v :: r) A) : G pc L (r) (A) := hG _ _ _ _ (by
  unfold stepP
  rw [hl]
  show (match nth L k with | some (some (.ref v)) => G nx L (.ref v :: r) A | some (some .null) => G nx L (.null :: r) A | _ => False)
  rw [hv]
  exact h)
theorem q_astore_n (hG : Cl S M Post G) {j : _} {k : Nat} {v : _} (hl : lk pc M.1 = some (.astore_n j, nx, cst, k :: x)) (ho : okS L k = true) (h : G nx (L.set k (some (.ref v))) r A) : G pc L (.ref v :: r) (A) := hG _ _ _ _ (by
  unfold stepP
  rw [hl]
  show cond (okS L k) _ False
  rw [ho]
  exact h)
theorem q_astoreJ_n (hG : Cl S M Post G) {j : _} {k : Nat} {v : _} (hl : lk pc M.1 = some (.astore_n j, nx, cst, k :: x)) (ho : okS L k = true) (h : G nx (L.set k none) r A) : G pc L (.retAddr v :: r) (A) := hG _ _ _ _ (by
  unfold stepP
  rw [hl]
  show cond (okS L k) _ False
  rw [ho]
  exact h)
theorem q_lload (hG : Cl S M Post G) {j : _} {k : Nat} {v : _} (hl : lk pc M.1 = some (.lload j, nx, cst, k :: x)) (hv : nth L k = some (some (.long v))) (h : G nx L (.long v :: r) A) : G pc L (r) (A) := hG _ _ _ _ (by
  unfold stepP
  rw [hl]
  show (match nth L k with | some (some (.long v)) => G nx L (.long v :: r) A | _ => False)
  rw [hv]
  exact h)
theorem q_lstore (hG : Cl S M Post G) {j : _} {k : Nat} {v : _} (hl : lk pc M.1 = some (.lstore j, nx, cst, k :: x)) (ho : okS L k = true) (h : G nx ((L.set k (some (.long v))).set (k + 1) none) r A) : G pc L (.long v :: r) (A) := hG _ _ _ _ (by
  unfold stepP
  rw [hl]
  show cond (okS L k) _ False
  rw [ho]
  exact h)
theorem q_lload_n (hG : Cl S M Post G) {j : _} {k : Nat} {v : _} (hl : lk pc M.1 = some (.lload_n j, nx, cst, k :: x)) (hv : nth L k = some (some (.long v))) (h : G nx L (.long v :: r) A) : G pc L (r) (A) := hG _ _ _ _ (by
  unfold stepP
  rw [hl]
  show (match nth L k with | some (some (.long v)) => G nx L (.long v :: r) A | _ => False)
  rw [hv]
  exact h)
theorem q_lstore_n (hG : Cl S M Post G) {j : _} {k : Nat} {v : _} (hl : lk pc M.1 = some (.lstore_n j, nx, cst, k :: x)) (ho : okS L k = true) (h : G nx ((L.set k (some (.long v))).set (k + 1) none) r A) : G pc L (.long v :: r) (A) := hG _ _ _ _ (by
  unfold stepP
  rw [hl]
  show cond (okS L k) _ False
  rw [ho]
  exact h)
theorem q_dload (hG : Cl S M Post G) {j : _} {k : Nat} {v : _} (hl : lk pc M.1 = some (.dload j, nx, cst, k :: x)) (hv : nth L k = some (some (.double v))) (h : G nx L (.double v :: r) A) : G pc L (r) (A) := hG _ _ _ _ (by
  unfold stepP
  rw [hl]
  show (match nth L k with | some (some (.double v)) => G nx L (.double v :: r) A | _ => False)
  rw [hv]
  exact h)
theorem q_dstore (hG : Cl S M Post G) {j : _} {k : Nat} {v : _} (hl : lk pc M.1 = some (.dstore j, nx, cst, k :: x)) (ho : okS L k = true) (h : G nx ((L.set k (some (.double v))).set (k + 1) none) r A) : G pc L (.double v :: r) (A) := hG _ _ _ _ (by
  unfold stepP
  rw [hl]
  show cond (okS L k) _ False
  rw [ho]
  exact h)
theorem q_fload (hG : Cl S M Post G) {j : _} {k : Nat} {v : _} (hl : lk pc M.1 = some (.fload j, nx, cst, k :: x)) (hv : nth L k = some (some (.float v))) (h : G nx L (.float v :: r) A) : G pc L (r) (A) := hG _ _ _ _ (by
  unfold stepP
  rw [hl]
  show (match nth L k with | some (some (.float v)) => G nx L (.float v :: r) A | _ => False)
  rw [hv]
  exact h)
theorem q_fstore (hG : Cl S M Post G) {j : _} {k : Nat} {v : _} (hl : lk pc M.1 = some (.fstore j, nx, cst, k :: x)) (ho : okS L k = true) (h : G nx (L.set k (some (.float v))) r A) : G pc L (.float v :: r) (A) := hG _ _ _ _ (by
  unfold stepP
  rw [hl]
  show cond (okS L k) _ False
  rw [ho]
  exact h)
theorem q_iinc (hG : Cl S M Post G) {j : _} {m : _} {k : Nat} {v c : Int} (hl : lk pc M.1 = some (.iinc j m, nx, cst, k :: x)) (hc : cst = i3 c) (hv : nth L k = some (some (.int (i3 v)))) (ho : okS L k = true) (h : G nx (L.set k (some (.int (i3 (v + c))))) r A) : G pc L (r) (A) := hG _ _ _ _ (by
  unfold stepP
  rw [hl]
  show (match nth L k with | some (some (.int v)) => cond (okS L k) (G nx (L.set k (some (.int (v + cst)))) r A) False | _ => False)
  rw [hv, ho, hc]
  show G nx (L.set k (some (.int (i3 v + i3 c)))) r A
  rw [i3_add]
  exact h)
theorem q_goto (hG : Cl S M Post G) {j : _} {t : Nat} (hl : lk pc M.1 = some (.goto j, nx, cst, t :: x)) (h : G t L r A) : G pc L (r) (A) := hG _ _ _ _ (by
  unfold stepP
  rw [hl]
  exact h)
theorem q_dup (hG : Cl S M Post G) {v : _} (hl : lk pc M.1 = some (.dup, nx, cst, x)) (hv : v.category = 1) (h : G nx L (v :: v :: r) A) : G pc L (v :: r) (A) := hG _ _ _ _ (by
  unfold stepP
  rw [hl]
  show (match (match v.category with | 1 => some (v :: v :: r) | _ => none) with | some st' => G nx L st' A | none => False)
  rw [hv]
  exact h)
theorem q_pop (hG : Cl S M Post G) {v : _} (hl : lk pc M.1 = some (.pop, nx, cst, x)) (hv : v.category = 1) (h : G nx L r A) : G pc L (v :: r) (A) := hG _ _ _ _ (by
  unfold stepP
  rw [hl]
  show (match (match v.category with | 1 => some r | _ => none) with | some st' => G nx L st' A | none => False)
  rw [hv]
  exact h)
theorem q_dup_x1 (hG : Cl S M Post G) {v u : _} (hl : lk pc M.1 = some (.dup_x1, nx, cst, x)) (hv : v.category = 1) (hu : u.category = 1) (h : G nx L (v :: u :: v :: r) A) : G pc L (v :: u :: r) (A) := hG _ _ _ _ (by
  unfold stepP
  rw [hl]
  show (match (match v.category, u.category with | 1, 1 => some (v :: u :: v :: r) | _, _ => none) with | some st' => G nx L st' A | none => False)
  rw [hv, hu]
  exact h)
theorem q_dup2 (hG : Cl S M Post G) {v u : _} (hl : lk pc M.1 = some (.dup2, nx, cst, x)) (hv : v.category = 1) (hu : u.category = 1) (h : G nx L (v :: u :: v :: u :: r) A) : G pc L (v :: u :: r) (A) := hG _ _ _ _ (by
  unfold stepP
  rw [hl]
  show (match (match v.category, u.category with | 1, 1 => some (v :: u :: v :: u :: r) | _, _ => none) with | some st' => G nx L st' A | none => False)
  rw [hv, hu]
  exact h)
theorem q_iadd (hG : Cl S M Post G) {a b : Int} (hl : lk pc M.1 = some (.iadd, nx, cst, x)) (h : G nx L (.int (i3 (a + b)) :: r) A) : G pc L (.int (i3 b) :: .int (i3 a) :: r) (A) := hG _ _ _ _ (by
  unfold stepP
  rw [hl]
  show G nx L (.int (i3 a + i3 b) :: r) A
  rw [i3_add]
  exact h)
theorem q_isub (hG : Cl S M Post G) {a b : Int} (hl : lk pc M.1 = some (.isub, nx, cst, x)) (h : G nx L (.int (i3 (a - b)) :: r) A) : G pc L (.int (i3 b) :: .int (i3 a) :: r) (A) := hG _ _ _ _ (by
  unfold stepP
  rw [hl]
  show G nx L (.int (i3 a - i3 b) :: r) A
  rw [i3_sub]
  exact h)
theorem q_imul (hG : Cl S M Post G) {a b : Int} (hl : lk pc M.1 = some (.imul, nx, cst, x)) (h : G nx L (.int (i3 (a * b)) :: r) A) : G pc L (.int (i3 b) :: .int (i3 a) :: r) (A) := hG _ _ _ _ (by
  unfold stepP
  rw [hl]
  show G nx L (.int (i3 a * i3 b) :: r) A
  rw [i3_mul]
  exact h)
theorem q_ineg (hG : Cl S M Post G) {a : Int} (hl : lk pc M.1 = some (.ineg, nx, cst, x)) (h : G nx L (.int (i3 (-a)) :: r) A) : G pc L (.int (i3 a) :: r) (A) := hG _ _ _ _ (by
  unfold stepP
  rw [hl]
  show G nx L (.int (-i3 a) :: r) A
  rw [i3_neg]
  exact h)
theorem q_i2c (hG : Cl S M Post G) {a : Int} (hl : lk pc M.1 = some (.i2c, nx, cst, x)) (h : G nx L (.int (i3 (a % 65536)) :: r) A) : G pc L (.int (i3 a) :: r) (A) := hG _ _ _ _ (by
  unfold stepP
  rw [hl]
  show G nx L (.int (((i3 a).toUInt32 % 65536).toInt32) :: r) A
  rw [i3_c]
  exact h)
theorem q_i2b (hG : Cl S M Post G) {a : Int} (hl : lk pc M.1 = some (.i2b, nx, cst, x)) (hv : -128 ≤ a ∧ a < 128) (h : G nx L (.int (i3 a) :: r) A) : G pc L (.int (i3 a) :: r) (A) := hG _ _ _ _ (by
  unfold stepP
  rw [hl]
  show G nx L (.int (i3 a).toInt8.toInt32 :: r) A
  rw [i3_b hv]
  exact h)
theorem q_iand (hG : Cl S M Post G) {a m : Int} (k : Nat) (hl : lk pc M.1 = some (.iand, nx, cst, x)) (hk : k ≤ 31) (hm : (i3 m).toBitVec.toNat = 2 ^ k - 1) (h : G nx L (.int (i3 (a % 2 ^ k)) :: r) A) : G pc L (.int (i3 m) :: .int (i3 a) :: r) (A) := hG _ _ _ _ (by
  unfold stepP
  rw [hl]
  show G nx L (.int (i3 a &&& i3 m) :: r) A
  rw [i3_and hk hm]
  exact h)
theorem q_ishl0 (hG : Cl S M Post G) {a : Int} (hl : lk pc M.1 = some (.ishl, nx, cst, x)) (h : G nx L (.int (i3 a) :: r) A) : G pc L (.int (i3 0) :: .int (i3 a) :: r) (A) := hG _ _ _ _ (by
  unfold stepP
  rw [hl]
  show G nx L (.int (i3 a <<< ((0 : Int32) &&& 31)) :: r) A
  rw [sb_shl0]
  exact h)
theorem q_ishr0 (hG : Cl S M Post G) {a : Int} (hl : lk pc M.1 = some (.ishr, nx, cst, x)) (h : G nx L (.int (i3 a) :: r) A) : G pc L (.int (i3 0) :: .int (i3 a) :: r) (A) := hG _ _ _ _ (by
  unfold stepP
  rw [hl]
  show G nx L (.int (i3 a >>> ((0 : Int32) &&& 31)) :: r) A
  rw [sb_shr0]
  exact h)
theorem q_idiv (hG : Cl S M Post G) {a b : Int} (hl : lk pc M.1 = some (.idiv, nx, cst, x)) (ha : r32 a) (hb : 0 < b ∧ b < 2147483648) (h : G nx L (.int (i3 (a.tdiv b)) :: r) A) : G pc L (.int (i3 b) :: .int (i3 a) :: r) (A) := hG _ _ _ _ (by
  unfold stepP
  rw [hl]
  refine ⟨i3_n0 ⟨by omega, hb.2⟩ (by omega), ?_⟩
  rw [i3_div ha ⟨by omega, hb.2⟩ hb.1]
  exact h)
theorem q_irem (hG : Cl S M Post G) {a b : Int} (hl : lk pc M.1 = some (.irem, nx, cst, x)) (ha : r32 a) (hb : 0 < b ∧ b < 2147483648) (h : G nx L (.int (i3 (a - a.tdiv b * b)) :: r) A) : G pc L (.int (i3 b) :: .int (i3 a) :: r) (A) := hG _ _ _ _ (by
  unfold stepP
  rw [hl]
  refine ⟨i3_n0 ⟨by omega, hb.2⟩ (by omega), ?_⟩
  rw [i3_div ha ⟨by omega, hb.2⟩ hb.1, i3_mul, i3_sub]
  exact h)
theorem q_ior (hG : Cl S M Post G) {a b : Int} (hl : lk pc M.1 = some (.ior, nx, cst, x)) (ha : a = 0 ∨ a = 1) (hb : b = 0 ∨ b = 1) (h : G nx L (.int (i3 (if a = 1 ∨ b = 1 then 1 else 0)) :: r) A) : G pc L (.int (i3 b) :: .int (i3 a) :: r) (A) := hG _ _ _ _ (by
  unfold stepP
  rw [hl]
  show G nx L (.int (i3 a ||| i3 b) :: r) A
  have e : i3 a ||| i3 b = i3 (if a = 1 ∨ b = 1 then 1 else 0) := by
    rcases ha with ha | ha <;> rcases hb with hb | hb <;> subst ha <;> subst hb <;> decide +kernel
  rw [e]
  exact h)
theorem q_i2l (hG : Cl S M Post G) {v : _} (hl : lk pc M.1 = some (.i2l, nx, cst, x)) (h : G nx L (.long v.toInt64 :: r) A) : G pc L (.int v :: r) (A) := hG _ _ _ _ (by
  unfold stepP
  rw [hl]
  exact h)
theorem q_i2d (hG : Cl S M Post G) {v : _} (hl : lk pc M.1 = some (.i2d, nx, cst, x)) (h : G nx L (.double (FP.i2d v) :: r) A) : G pc L (.int v :: r) (A) := hG _ _ _ _ (by
  unfold stepP
  rw [hl]
  exact h)
theorem q_i2f (hG : Cl S M Post G) {v : _} (hl : lk pc M.1 = some (.i2f, nx, cst, x)) (h : G nx L (.float (FP.i2f v) :: r) A) : G pc L (.int v :: r) (A) := hG _ _ _ _ (by
  unfold stepP
  rw [hl]
  exact h)
theorem q_lcmp (hG : Cl S M Post G) {v u : _} (hl : lk pc M.1 = some (.lcmp, nx, cst, x)) (h : G nx L (.int (lg_cmp u v) :: r) A) : G pc L (.long v :: .long u :: r) (A) := hG _ _ _ _ (by
  unfold stepP
  rw [hl]
  exact h)
theorem q_land (hG : Cl S M Post G) {v u : _} (hl : lk pc M.1 = some (.land, nx, cst, x)) (h : G nx L (.long (u &&& v) :: r) A) : G pc L (.long v :: .long u :: r) (A) := hG _ _ _ _ (by
  unfold stepP
  rw [hl]
  exact h)
theorem q_lor (hG : Cl S M Post G) {v u : _} (hl : lk pc M.1 = some (.lor, nx, cst, x)) (h : G nx L (.long (u ||| v) :: r) A) : G pc L (.long v :: .long u :: r) (A) := hG _ _ _ _ (by
  unfold stepP
  rw [hl]
  exact h)
theorem q_lsub (hG : Cl S M Post G) {v u : _} (hl : lk pc M.1 = some (.lsub, nx, cst, x)) (h : G nx L (.long (u - v) :: r) A) : G pc L (.long v :: .long u :: r) (A) := hG _ _ _ _ (by
  unfold stepP
  rw [hl]
  exact h)
theorem q_lshl (hG : Cl S M Post G) {v : Int32} {u : Int64} (hl : lk pc M.1 = some (.lshl, nx, cst, x)) (h : G nx L (.long (u <<< (v.toInt64 &&& 63)) :: r) A) : G pc L (.int v :: .long u :: r) (A) := hG _ _ _ _ (by
  unfold stepP
  rw [hl]
  exact h)
theorem q_lshr (hG : Cl S M Post G) {v : Int32} {u : Int64} (hl : lk pc M.1 = some (.lshr, nx, cst, x)) (h : G nx L (.long (u >>> (v.toInt64 &&& 63)) :: r) A) : G pc L (.int v :: .long u :: r) (A) := hG _ _ _ _ (by
  unfold stepP
  rw [hl]
  exact h)
theorem q_dcmp (hG : Cl S M Post G) {j : _} {v u : _} (hl : lk pc M.1 = some (.dcmp j, nx, cst, x)) (h : G nx L (.int (Op.cmpValue (FP.dcmp u v) j) :: r) A) : G pc L (.double v :: .double u :: r) (A) := hG _ _ _ _ (by
  unfold stepP
  rw [hl]
  exact h)
theorem q_fcmp (hG : Cl S M Post G) {j : _} {v u : _} (hl : lk pc M.1 = some (.fcmp j, nx, cst, x)) (h : G nx L (.int (Op.cmpValue (FP.fcmp u v) j) :: r) A) : G pc L (.float v :: .float u :: r) (A) := hG _ _ _ _ (by
  unfold stepP
  rw [hl]
  exact h)
theorem q_ddiv (hG : Cl S M Post G) {v u : _} (hl : lk pc M.1 = some (.ddiv, nx, cst, x)) (hv : vf_n64 (FP.ddiv u v)) (h : G nx L (.double (FP.ddiv u v) :: r) A) : G pc L (.double v :: .double u :: r) (A) := hG _ _ _ _ (by
  unfold stepP
  rw [hl]
  exact ⟨hv, h⟩)
theorem q_fdiv (hG : Cl S M Post G) {v u : _} (hl : lk pc M.1 = some (.fdiv, nx, cst, x)) (hv : vf_n32 (FP.fdiv u v)) (h : G nx L (.float (FP.fdiv u v) :: r) A) : G pc L (.float v :: .float u :: r) (A) := hG _ _ _ _ (by
  unfold stepP
  rw [hl]
  exact ⟨hv, h⟩)
theorem q_f2d (hG : Cl S M Post G) {v : _} (hl : lk pc M.1 = some (.f2d, nx, cst, x)) (hv : vf_n64 (FP.f2d v)) (h : G nx L (.double (FP.f2d v) :: r) A) : G pc L (.float v :: r) (A) := hG _ _ _ _ (by
  unfold stepP
  rw [hl]
  exact ⟨hv, h⟩)
theorem qm_eq {a b : Int} (ha : r32 a) (hb : r32 b) : cmpP .eq (i3 a) (i3 b) ↔ a = b := i3_eq ha hb
theorem q_icmp_eq (hG : Cl S M Post G) {j : _} {t : Nat} {a b : Int} (hl : lk pc M.1 = some (.if_icmp .eq j, nx, cst, t :: x)) (ha : r32 a) (hb : r32 b) (h1 : a = b → G t L r A) (h2 : ¬ (a = b) → G nx L r A) : G pc L (.int (i3 b) :: .int (i3 a) :: r) (A) := hG _ _ _ _ (by
  unfold stepP
  rw [hl]
  exact ⟨fun q => h1 ((qm_eq ha hb).mp q), fun q => h2 (fun z => q ((qm_eq ha hb).mpr z))⟩)
theorem q_if_eq (hG : Cl S M Post G) {j : _} {t : Nat} {a : Int} (hl : lk pc M.1 = some (.ifCond .eq j, nx, cst, t :: x)) (ha : r32 a) (h1 : a = 0 → G t L r A) (h2 : ¬ (a = 0) → G nx L r A) : G pc L (.int (i3 a) :: r) (A) := hG _ _ _ _ (by
  unfold stepP
  rw [hl]
  exact ⟨fun q => h1 ((qm_eq ha r32_0).mp q), fun q => h2 (fun z => q ((qm_eq ha r32_0).mpr z))⟩)
theorem qm_ne {a b : Int} (ha : r32 a) (hb : r32 b) : cmpP .ne (i3 a) (i3 b) ↔ ¬ a = b := not_congr (i3_eq ha hb)
theorem q_icmp_ne (hG : Cl S M Post G) {j : _} {t : Nat} {a b : Int} (hl : lk pc M.1 = some (.if_icmp .ne j, nx, cst, t :: x)) (ha : r32 a) (hb : r32 b) (h1 : ¬ a = b → G t L r A) (h2 : ¬ (¬ a = b) → G nx L r A) : G pc L (.int (i3 b) :: .int (i3 a) :: r) (A) := hG _ _ _ _ (by
  unfold stepP
  rw [hl]
  exact ⟨fun q => h1 ((qm_ne ha hb).mp q), fun q => h2 (fun z => q ((qm_ne ha hb).mpr z))⟩)
theorem q_if_ne (hG : Cl S M Post G) {j : _} {t : Nat} {a : Int} (hl : lk pc M.1 = some (.ifCond .ne j, nx, cst, t :: x)) (ha : r32 a) (h1 : ¬ a = 0 → G t L r A) (h2 : ¬ (¬ a = 0) → G nx L r A) : G pc L (.int (i3 a) :: r) (A) := hG _ _ _ _ (by
  unfold stepP
  rw [hl]
  exact ⟨fun q => h1 ((qm_ne ha r32_0).mp q), fun q => h2 (fun z => q ((qm_ne ha r32_0).mpr z))⟩)
theorem qm_lt {a b : Int} (ha : r32 a) (hb : r32 b) : cmpP .lt (i3 a) (i3 b) ↔ a < b := i3_lt ha hb
theorem q_icmp_lt (hG : Cl S M Post G) {j : _} {t : Nat} {a b : Int} (hl : lk pc M.1 = some (.if_icmp .lt j, nx, cst, t :: x)) (ha : r32 a) (hb : r32 b) (h1 : a < b → G t L r A) (h2 : ¬ (a < b) → G nx L r A) : G pc L (.int (i3 b) :: .int (i3 a) :: r) (A) := hG _ _ _ _ (by
  unfold stepP
  rw [hl]
  exact ⟨fun q => h1 ((qm_lt ha hb).mp q), fun q => h2 (fun z => q ((qm_lt ha hb).mpr z))⟩)
theorem q_if_lt (hG : Cl S M Post G) {j : _} {t : Nat} {a : Int} (hl : lk pc M.1 = some (.ifCond .lt j, nx, cst, t :: x)) (ha : r32 a) (h1 : a < 0 → G t L r A) (h2 : ¬ (a < 0) → G nx L r A) : G pc L (.int (i3 a) :: r) (A) := hG _ _ _ _ (by
  unfold stepP
  rw [hl]
  exact ⟨fun q => h1 ((qm_lt ha r32_0).mp q), fun q => h2 (fun z => q ((qm_lt ha r32_0).mpr z))⟩)
theorem qm_ge {a b : Int} (ha : r32 a) (hb : r32 b) : cmpP .ge (i3 a) (i3 b) ↔ b ≤ a := i3_le hb ha
theorem q_icmp_ge (hG : Cl S M Post G) {j : _} {t : Nat} {a b : Int} (hl : lk pc M.1 = some (.if_icmp .ge j, nx, cst, t :: x)) (ha : r32 a) (hb : r32 b) (h1 : b ≤ a → G t L r A) (h2 : ¬ (b ≤ a) → G nx L r A) : G pc L (.int (i3 b) :: .int (i3 a) :: r) (A) := hG _ _ _ _ (by
  unfold stepP
  rw [hl]
  exact ⟨fun q => h1 ((qm_ge ha hb).mp q), fun q => h2 (fun z => q ((qm_ge ha hb).mpr z))⟩)
theorem q_if_ge (hG : Cl S M Post G) {j : _} {t : Nat} {a : Int} (hl : lk pc M.1 = some (.ifCond .ge j, nx, cst, t :: x)) (ha : r32 a) (h1 : 0 ≤ a → G t L r A) (h2 : ¬ (0 ≤ a) → G nx L r A) : G pc L (.int (i3 a) :: r) (A) := hG _ _ _ _ (by
  unfold stepP
  rw [hl]
  exact ⟨fun q => h1 ((qm_ge ha r32_0).mp q), fun q => h2 (fun z => q ((qm_ge ha r32_0).mpr z))⟩)
theorem qm_gt {a b : Int} (ha : r32 a) (hb : r32 b) : cmpP .gt (i3 a) (i3 b) ↔ b < a := i3_lt hb ha
theorem q_icmp_gt (hG : Cl S M Post G) {j : _} {t : Nat} {a b : Int} (hl : lk pc M.1 = some (.if_icmp .gt j, nx, cst, t :: x)) (ha : r32 a) (hb : r32 b) (h1 : b < a → G t L r A) (h2 : ¬ (b < a) → G nx L r A) : G pc L (.int (i3 b) :: .int (i3 a) :: r) (A) := hG _ _ _ _ (by
  unfold stepP
  rw [hl]
  exact ⟨fun q => h1 ((qm_gt ha hb).mp q), fun q => h2 (fun z => q ((qm_gt ha hb).mpr z))⟩)
theorem q_if_gt (hG : Cl S M Post G) {j : _} {t : Nat} {a : Int} (hl : lk pc M.1 = some (.ifCond .gt j, nx, cst, t :: x)) (ha : r32 a) (h1 : 0 < a → G t L r A) (h2 : ¬ (0 < a) → G nx L r A) : G pc L (.int (i3 a) :: r) (A) := hG _ _ _ _ (by
  unfold stepP
  rw [hl]
  exact ⟨fun q => h1 ((qm_gt ha r32_0).mp q), fun q => h2 (fun z => q ((qm_gt ha r32_0).mpr z))⟩)
theorem qm_le {a b : Int} (ha : r32 a) (hb : r32 b) : cmpP .le (i3 a) (i3 b) ↔ a ≤ b := i3_le ha hb
theorem q_icmp_le (hG : Cl S M Post G) {j : _} {t : Nat} {a b : Int} (hl : lk pc M.1 = some (.if_icmp .le j, nx, cst, t :: x)) (ha : r32 a) (hb : r32 b) (h1 : a ≤ b → G t L r A) (h2 : ¬ (a ≤ b) → G nx L r A) : G pc L (.int (i3 b) :: .int (i3 a) :: r) (A) := hG _ _ _ _ (by
  unfold stepP
  rw [hl]
  exact ⟨fun q => h1 ((qm_le ha hb).mp q), fun q => h2 (fun z => q ((qm_le ha hb).mpr z))⟩)
theorem q_if_le (hG : Cl S M Post G) {j : _} {t : Nat} {a : Int} (hl : lk pc M.1 = some (.ifCond .le j, nx, cst, t :: x)) (ha : r32 a) (h1 : a ≤ 0 → G t L r A) (h2 : ¬ (a ≤ 0) → G nx L r A) : G pc L (.int (i3 a) :: r) (A) := hG _ _ _ _ (by
  unfold stepP
  rw [hl]
  exact ⟨fun q => h1 ((qm_le ha r32_0).mp q), fun q => h2 (fun z => q ((qm_le ha r32_0).mpr z))⟩)
theorem q_nonnull (hG : Cl S M Post G) {j : _} {t a : Nat} (hl : lk pc M.1 = some (.ifnonnull j, nx, cst, t :: x)) (h : G t L r A) : G pc L (.ref a :: r) A := hG _ _ _ _ (by
  unfold stepP
  rw [hl]
  exact h)
theorem q_tsw (hG : Cl S M Post G) {a b c : _} {e : _} {d : Nat} {v : Int} (hl : lk pc M.1 = some (.tableswitch a b c e, nx, cst, d :: x)) (hv : r32 v) (hb : swb x = true) (h : swI v x d (fun t => G t L r A)) : G pc L (.int (i3 v) :: r) (A) := hG _ _ _ _ (by
  unfold stepP
  rw [hl]
  exact swI_P hv x hb h)
theorem q_lsw (hG : Cl S M Post G) {a : _} {b : _} {d : Nat} {v : Int} (hl : lk pc M.1 = some (.lookupswitch a b, nx, cst, d :: x)) (hv : r32 v) (hb : swb x = true) (h : swI v x d (fun t => G t L r A)) : G pc L (.int (i3 v) :: r) (A) := hG _ _ _ _ (by
  unfold stepP
  rw [hl]
  exact swI_P hv x hb h)
theorem q_getR (hG : Cl S M Post G) {j : _} {ci k a b : Nat} (hl : lk pc M.1 = some (.getfield j, nx, cst, ci :: k :: 2 :: x)) (hk : hK A a = (10 + ci, 0)) (hr : hR A a k = some b) (h : G nx L (.ref b :: r) A) : G pc L (.ref a :: r) (A) := hG _ _ _ _ (by
  unfold stepP
  rw [hl]
  exact ⟨hk, b, hr, h⟩)
theorem q_putRo (hG : Cl S M Post G) {j : _} {ci k a b z : Nat} (hl : lk pc M.1 = some (.putfield j, nx, cst, [ci, k, 2, z])) (ha : a < BIG) (hk : hK B a = (10 + ci, 0)) (h : G nx L r (wI (sR B a k (some b)) I)) : G pc L (.ref b :: .ref a :: r) (wI B I) := hG _ _ _ _ (by
  unfold stepP
  rw [hl]
  exact ⟨hk, ha, h⟩)
theorem q_putI4o (hG : Cl S M Post G) {j : _} {ci k a z : Nat} {v : Int} (hl : lk pc M.1 = some (.putfield j, nx, cst, [ci, k, 4, z])) (ha : a < BIG) (hk : hK B a = (10 + ci, 0)) (hv : -128 ≤ v ∧ v < 128) (h : G nx L r (wI B (st I a k v))) : G pc L (.int (i3 v) :: .ref a :: r) (wI B I) := hG _ _ _ _ (by
  unfold stepP
  rw [hl]
  refine ⟨hk, ha, i3_nb hv, ?_⟩
  rw [wI_sI]
  exact h)
theorem ushr3 (w : Int32) : ∃ v : Int, 0 ≤ v ∧ v < 536870912 ∧ (w.toUInt32 >>> ((i3 3).toUInt32 &&& Int32.toUInt32 31)).toInt32 = i3 v := by
  have e : ((i3 3).toUInt32 &&& Int32.toUInt32 31) = 3 := by decide
  rw [e]
  refine ⟨((w.toUInt32 >>> 3).toNat : Int), by omega, ?_, ?_⟩
  · have h1 := w.toUInt32.toNat_lt
    have h2 : (w.toUInt32 >>> 3).toNat = w.toUInt32.toNat / 8 := by
      rw [UInt32.toNat_shiftRight]
      exact Nat.shiftRight_eq_div_pow _ 3
    omega
  · refine Int32.toBitVec_inj.mp ?_
    show (w.toUInt32 >>> 3).toBitVec = BitVec.ofInt 32 _
    rw [BitVec.ofInt_natCast]
    show (w.toUInt32 >>> 3).toBitVec = BitVec.ofNat 32 (w.toUInt32 >>> 3).toBitVec.toNat
    rw [BitVec.ofNat_toNat, BitVec.setWidth_eq]
theorem q_iushr3 (hG : Cl S M Post G) {w : Int} (hl : lk pc M.1 = some (.iushr, nx, cst, x)) (h : ∀ v : Int, 0 ≤ v → v < 536870912 → G nx L (.int (i3 v) :: r) A) : G pc L (.int (i3 3) :: .int (i3 w) :: r) A := hG _ _ _ _ (by
  obtain ⟨v, h1, h2, e⟩ := ushr3 (i3 w)
  unfold stepP
  rw [hl]
  show G nx L (.int ((i3 w).toUInt32 >>> ((i3 3).toUInt32 &&& Int32.toUInt32 31)).toInt32 :: r) A
  rw [e]
  exact h v h1 h2)
theorem q_getI0 (hG : Cl S M Post G) {j : _} {ci k a : Nat} (hl : lk pc M.1 = some (.getfield j, nx, cst, ci :: k :: 0 :: x)) (hk : hK B a = (10 + ci, 0)) (h : G nx L (.int (i3 (I a k)) :: r) (wI B I)) : G pc L (.ref a :: r) (wI B I) := hG _ _ _ _ (by
  unfold stepP
  rw [hl]
  exact ⟨hk, h⟩)
theorem q_getI4 (hG : Cl S M Post G) {j : _} {ci k a : Nat} (hl : lk pc M.1 = some (.getfield j, nx, cst, ci :: k :: 4 :: x)) (hk : hK B a = (10 + ci, 0)) (h : G nx L (.int (i3 (I a k)) :: r) (wI B I)) : G pc L (.ref a :: r) (wI B I) := hG _ _ _ _ (by
  unfold stepP
  rw [hl]
  exact ⟨hk, h⟩)
theorem q_getI5 (hG : Cl S M Post G) {j : _} {ci k a : Nat} (hl : lk pc M.1 = some (.getfield j, nx, cst, ci :: k :: 5 :: x)) (hk : hK B a = (10 + ci, 0)) (h : G nx L (.int (i3 (I a k)) :: r) (wI B I)) : G pc L (.ref a :: r) (wI B I) := hG _ _ _ _ (by
  unfold stepP
  rw [hl]
  exact ⟨hk, h⟩)
theorem q_getI3 (hG : Cl S M Post G) {j : _} {ci k a : Nat} (hl : lk pc M.1 = some (.getfield j, nx, cst, ci :: k :: 3 :: x)) (hk : hK B a = (10 + ci, 0)) (h : G nx L (.int (i3 (I a k)) :: r) (wI B I)) : G pc L (.ref a :: r) (wI B I) := hG _ _ _ _ (by
  unfold stepP
  rw [hl]
  exact ⟨hk, h⟩)
theorem q_putR (hG : Cl S M Post G) {j : _} {ci k a b : Nat} (hl : lk pc M.1 = some (.putfield j, nx, cst, [ci, k, 2])) (hk : hK B a = (10 + ci, 0)) (h : G nx L r (wI (sR B a k (some b)) I)) : G pc L (.ref b :: .ref a :: r) (wI B I) := hG _ _ _ _ (by
  unfold stepP
  rw [hl]
  exact ⟨hk, trivial, h⟩)
theorem q_putI0 (hG : Cl S M Post G) {j : _} {ci k a : Nat} {v : Int} (hl : lk pc M.1 = some (.putfield j, nx, cst, [ci, k, 0])) (hk : hK B a = (10 + ci, 0)) (h : G nx L r (wI B (st I a k v))) : G pc L (.int (i3 v) :: .ref a :: r) (wI B I) := hG _ _ _ _ (by
  unfold stepP
  rw [hl]
  refine ⟨hk, trivial, trivial, ?_⟩
  rw [wI_sI]
  exact h)
theorem q_putI4 (hG : Cl S M Post G) {j : _} {ci k a : Nat} {v : Int} (hl : lk pc M.1 = some (.putfield j, nx, cst, [ci, k, 4])) (hk : hK B a = (10 + ci, 0)) (hv : -128 ≤ v ∧ v < 128) (h : G nx L r (wI B (st I a k v))) : G pc L (.int (i3 v) :: .ref a :: r) (wI B I) := hG _ _ _ _ (by
  unfold stepP
  rw [hl]
  refine ⟨hk, trivial, i3_nb hv, ?_⟩
  rw [wI_sI]
  exact h)
theorem q_putI5 (hG : Cl S M Post G) {j : _} {ci k a : Nat} {v : Int} (hl : lk pc M.1 = some (.putfield j, nx, cst, [ci, k, 5])) (hk : hK B a = (10 + ci, 0)) (hv : v = 0 ∨ v = 1) (h : G nx L r (wI B (st I a k v))) : G pc L (.int (i3 v) :: .ref a :: r) (wI B I) := hG _ _ _ _ (by
  unfold stepP
  rw [hl]
  refine ⟨hk, trivial, i3_nZ hv, ?_⟩
  rw [wI_sI]
  exact h)
theorem q_putI3 (hG : Cl S M Post G) {j : _} {ci k a : Nat} {v : Int} (hl : lk pc M.1 = some (.putfield j, nx, cst, [ci, k, 3])) (hk : hK B a = (10 + ci, 0)) (hv : 0 ≤ v ∧ v < 65536) (h : G nx L r (wI B (st I a k v))) : G pc L (.int (i3 v) :: .ref a :: r) (wI B I) := hG _ _ _ _ (by
  unfold stepP
  rw [hl]
  refine ⟨hk, trivial, i3_nz hv, ?_⟩
  rw [wI_sI]
  exact h)
theorem q_alen (hG : Cl S M Post G) {a t n : Nat} (hl : lk pc M.1 = some (.arraylength, nx, cst, x)) (hk : hK A a = (t, n)) (ht : 0 < t ∧ t ≤ 9) (h : G nx L (.int (i3 (n : Int)) :: r) A) : G pc L (.ref a :: r) (A) := hG _ _ _ _ (by
  unfold stepP
  rw [hl]
  refine ⟨t, n, hk, ht.1, ht.2, ?_⟩
  rw [i3_nat]
  exact h)
theorem q_iald (hG : Cl S M Post G) {a n : Nat} {j : Int} (hl : lk pc M.1 = some (.iaload, nx, cst, [])) (hk : hK B a = (1, n)) (hj : 0 ≤ j ∧ j < (n : Int) ∧ j < 2147483648) (h : G nx L (.int (i3 (I a j.toNat)) :: r) (wI B I)) : G pc L (.int (i3 j) :: .ref a :: r) (wI B I) := hG _ _ _ _ (by
  unfold stepP
  rw [hl]
  obtain ⟨q1, q2⟩ := i3_inN hj
  refine ⟨n, hk, q1, ?_⟩
  rw [q2]
  exact h)
theorem q_iald9 (hG : Cl S M Post G) {a n : Nat} {j : Int} {z : Nat} (hl : lk pc M.1 = some (.iaload, nx, cst, z :: x)) (hk : hK B a = (9, n)) (hj : 0 ≤ j ∧ j < (n : Int) ∧ j < 2147483648) (h : G nx L (.int (i3 (I a j.toNat)) :: r) (wI B I)) : G pc L (.int (i3 j) :: .ref a :: r) (wI B I) := hG _ _ _ _ (by
  unfold stepP
  rw [hl]
  obtain ⟨q1, q2⟩ := i3_inN hj
  refine ⟨n, hk, q1, ?_⟩
  rw [q2]
  exact h)
theorem q_cald (hG : Cl S M Post G) {a n : Nat} {j : Int} (hl : lk pc M.1 = some (.caload, nx, cst, x)) (hk : hK B a = (3, n)) (hj : 0 ≤ j ∧ j < (n : Int) ∧ j < 2147483648) (h : G nx L (.int (i3 (I a j.toNat)) :: r) (wI B I)) : G pc L (.int (i3 j) :: .ref a :: r) (wI B I) := hG _ _ _ _ (by
  unfold stepP
  rw [hl]
  obtain ⟨q1, q2⟩ := i3_inN hj
  refine ⟨n, hk, q1, ?_⟩
  rw [q2]
  exact h)
theorem q_getI0v (hG : Cl S M Post G) {j : _} {ci k a : Nat} {v : Int} (hl : lk pc M.1 = some (.getfield j, nx, cst, ci :: k :: 0 :: x)) (hk : hK B a = (10 + ci, 0)) (hv : I a k = v) (h : G nx L (.int (i3 v) :: r) (wI B I)) : G pc L (.ref a :: r) (wI B I) := hG _ _ _ _ (by
  unfold stepP
  rw [hl]
  subst hv
  exact ⟨hk, h⟩)
theorem q_getI4v (hG : Cl S M Post G) {j : _} {ci k a : Nat} {v : Int} (hl : lk pc M.1 = some (.getfield j, nx, cst, ci :: k :: 4 :: x)) (hk : hK B a = (10 + ci, 0)) (hv : I a k = v) (h : G nx L (.int (i3 v) :: r) (wI B I)) : G pc L (.ref a :: r) (wI B I) := hG _ _ _ _ (by
  unfold stepP
  rw [hl]
  subst hv
  exact ⟨hk, h⟩)
theorem q_getI5v (hG : Cl S M Post G) {j : _} {ci k a : Nat} {v : Int} (hl : lk pc M.1 = some (.getfield j, nx, cst, ci :: k :: 5 :: x)) (hk : hK B a = (10 + ci, 0)) (hv : I a k = v) (h : G nx L (.int (i3 v) :: r) (wI B I)) : G pc L (.ref a :: r) (wI B I) := hG _ _ _ _ (by
  unfold stepP
  rw [hl]
  subst hv
  exact ⟨hk, h⟩)
theorem q_getI3v (hG : Cl S M Post G) {j : _} {ci k a : Nat} {v : Int} (hl : lk pc M.1 = some (.getfield j, nx, cst, ci :: k :: 3 :: x)) (hk : hK B a = (10 + ci, 0)) (hv : I a k = v) (h : G nx L (.int (i3 v) :: r) (wI B I)) : G pc L (.ref a :: r) (wI B I) := hG _ _ _ _ (by
  unfold stepP
  rw [hl]
  subst hv
  exact ⟨hk, h⟩)
theorem q_ialdv (hG : Cl S M Post G) {a n : Nat} {j v : Int} (hl : lk pc M.1 = some (.iaload, nx, cst, [])) (hk : hK B a = (1, n)) (hj : 0 ≤ j ∧ j < (n : Int) ∧ j < 2147483648) (hv : I a j.toNat = v) (h : G nx L (.int (i3 v) :: r) (wI B I)) : G pc L (.int (i3 j) :: .ref a :: r) (wI B I) := hG _ _ _ _ (by
  unfold stepP
  rw [hl]
  obtain ⟨q1, q2⟩ := i3_inN hj
  refine ⟨n, hk, q1, ?_⟩
  rw [q2]
  subst hv
  exact h)
theorem q_iald9v (hG : Cl S M Post G) {a n : Nat} {j v : Int} {z : Nat} (hl : lk pc M.1 = some (.iaload, nx, cst, z :: x)) (hk : hK B a = (9, n)) (hj : 0 ≤ j ∧ j < (n : Int) ∧ j < 2147483648) (hv : I a j.toNat = v) (h : G nx L (.int (i3 v) :: r) (wI B I)) : G pc L (.int (i3 j) :: .ref a :: r) (wI B I) := hG _ _ _ _ (by
  unfold stepP
  rw [hl]
  obtain ⟨q1, q2⟩ := i3_inN hj
  refine ⟨n, hk, q1, ?_⟩
  rw [q2]
  subst hv
  exact h)
theorem q_caldv (hG : Cl S M Post G) {a n : Nat} {j v : Int} (hl : lk pc M.1 = some (.caload, nx, cst, x)) (hk : hK B a = (3, n)) (hj : 0 ≤ j ∧ j < (n : Int) ∧ j < 2147483648) (hv : I a j.toNat = v) (h : G nx L (.int (i3 v) :: r) (wI B I)) : G pc L (.int (i3 j) :: .ref a :: r) (wI B I) := hG _ _ _ _ (by
  unfold stepP
  rw [hl]
  obtain ⟨q1, q2⟩ := i3_inN hj
  refine ⟨n, hk, q1, ?_⟩
  rw [q2]
  subst hv
  exact h)
theorem q_baldv (hG : Cl S M Post G) {a n t : Nat} {j v : Int} (hl : lk pc M.1 = some (.baload, nx, cst, x)) (hk : hK B a = (t, n)) (ht : t = 4 ∨ t = 8) (hj : 0 ≤ j ∧ j < (n : Int) ∧ j < 2147483648) (hv : I a j.toNat = v) (h : G nx L (.int (i3 v) :: r) (wI B I)) : G pc L (.int (i3 j) :: .ref a :: r) (wI B I) := hG _ _ _ _ (by
  unfold stepP
  rw [hl]
  obtain ⟨q1, q2⟩ := i3_inN hj
  refine ⟨n, t, hk, ht, q1, ?_⟩
  rw [q2]
  subst hv
  exact h)
theorem q_bald (hG : Cl S M Post G) {a n t : Nat} {j : Int} (hl : lk pc M.1 = some (.baload, nx, cst, x)) (hk : hK B a = (t, n)) (ht : t = 4 ∨ t = 8) (hj : 0 ≤ j ∧ j < (n : Int) ∧ j < 2147483648) (h : G nx L (.int (i3 (I a j.toNat)) :: r) (wI B I)) : G pc L (.int (i3 j) :: .ref a :: r) (wI B I) := hG _ _ _ _ (by
  unfold stepP
  rw [hl]
  obtain ⟨q1, q2⟩ := i3_inN hj
  refine ⟨n, t, hk, ht, q1, ?_⟩
  rw [q2]
  exact h)
theorem q_lald (hG : Cl S M Post G) {a n : Nat} {j : Int} (hl : lk pc M.1 = some (.laload, nx, cst, x)) (hk : hK A a = (2, n)) (hj : 0 ≤ j ∧ j < (n : Int) ∧ j < 2147483648) (h : G nx L (.long (hJ A a j.toNat) :: r) A) : G pc L (.int (i3 j) :: .ref a :: r) (A) := hG _ _ _ _ (by
  unfold stepP
  rw [hl]
  obtain ⟨q1, q2⟩ := i3_inN hj
  refine ⟨n, hk, q1, ?_⟩
  rw [q2]
  exact h)
theorem q_dald (hG : Cl S M Post G) {a n : Nat} {j : Int} (hl : lk pc M.1 = some (.daload, nx, cst, x)) (hk : hK A a = (5, n)) (hj : 0 ≤ j ∧ j < (n : Int) ∧ j < 2147483648) (h : G nx L (.double (hU A a j.toNat) :: r) A) : G pc L (.int (i3 j) :: .ref a :: r) (A) := hG _ _ _ _ (by
  unfold stepP
  rw [hl]
  obtain ⟨q1, q2⟩ := i3_inN hj
  refine ⟨n, hk, q1, ?_⟩
  rw [q2]
  exact h)
theorem q_aald (hG : Cl S M Post G) {a n t b : Nat} {j : Int} (hl : lk pc M.1 = some (.aaload, nx, cst, x)) (hk : hK A a = (t, n)) (ht : t = 6 ∨ t = 7) (hj : 0 ≤ j ∧ j < (n : Int) ∧ j < 2147483648) (hr : hR A a j.toNat = some b) (h : G nx L (.ref b :: r) A) : G pc L (.int (i3 j) :: .ref a :: r) (A) := hG _ _ _ _ (by
  unfold stepP
  rw [hl]
  obtain ⟨q1, q2⟩ := i3_inN hj
  refine ⟨n, t, b, hk, ht, q1, ?_, h⟩
  rw [q2]
  exact hr)
theorem q_iast (hG : Cl S M Post G) {a n : Nat} {j v : Int} (hl : lk pc M.1 = some (.iastore, nx, cst, x)) (hk : hK B a = (1, n)) (hj : 0 ≤ j ∧ j < (n : Int) ∧ j < 2147483648) (h : G nx L r (wI B (st I a j.toNat v))) : G pc L (.int (i3 v) :: .int (i3 j) :: .ref a :: r) (wI B I) := hG _ _ _ _ (by
  unfold stepP
  rw [hl]
  obtain ⟨q1, q2⟩ := i3_inN hj
  refine ⟨n, hk, q1, ?_⟩
  rw [q2, wI_sI]
  exact h)
theorem q_cast (hG : Cl S M Post G) {a n : Nat} {j v : Int} (hl : lk pc M.1 = some (.castore, nx, cst, x)) (hk : hK B a = (3, n)) (hj : 0 ≤ j ∧ j < (n : Int) ∧ j < 2147483648) (hv : 0 ≤ v ∧ v < 65536) (h : G nx L r (wI B (st I a j.toNat v))) : G pc L (.int (i3 v) :: .int (i3 j) :: .ref a :: r) (wI B I) := hG _ _ _ _ (by
  unfold stepP
  rw [hl]
  obtain ⟨q1, q2⟩ := i3_inN hj
  refine ⟨n, hk, q1, ?_⟩
  rw [q2, i3_nz hv, wI_sI]
  exact h)
theorem q_bast (hG : Cl S M Post G) {a n : Nat} {j v : Int} (hl : lk pc M.1 = some (.bastore, nx, cst, x)) (hk : hK B a = (4, n)) (hj : 0 ≤ j ∧ j < (n : Int) ∧ j < 2147483648) (hv : -128 ≤ v ∧ v < 128) (h : G nx L r (wI B (st I a j.toNat v))) : G pc L (.int (i3 v) :: .int (i3 j) :: .ref a :: r) (wI B I) := hG _ _ _ _ (by
  unfold stepP
  rw [hl]
  obtain ⟨q1, q2⟩ := i3_inN hj
  refine ⟨n, hk, q1, ?_⟩
  rw [q2, i3_nb hv, wI_sI]
  exact h)
theorem q_last (hG : Cl S M Post G) {a n : Nat} {j : Int} {v : _} (hl : lk pc M.1 = some (.lastore, nx, cst, x)) (hk : hK B a = (2, n)) (hj : 0 ≤ j ∧ j < (n : Int) ∧ j < 2147483648) (h : G nx L r (wI (sJ B a j.toNat v) I)) : G pc L (.long v :: .int (i3 j) :: .ref a :: r) (wI B I) := hG _ _ _ _ (by
  unfold stepP
  rw [hl]
  obtain ⟨q1, q2⟩ := i3_inN hj
  refine ⟨n, hk, q1, ?_⟩
  rw [q2]
  exact h)
theorem q_dast (hG : Cl S M Post G) {a n : Nat} {j : Int} {v : _} (hl : lk pc M.1 = some (.dastore, nx, cst, x)) (hk : hK B a = (5, n)) (hj : 0 ≤ j ∧ j < (n : Int) ∧ j < 2147483648) (h : G nx L r (wI (sU B a j.toNat v) I)) : G pc L (.double v :: .int (i3 j) :: .ref a :: r) (wI B I) := hG _ _ _ _ (by
  unfold stepP
  rw [hl]
  obtain ⟨q1, q2⟩ := i3_inN hj
  refine ⟨n, hk, q1, ?_⟩
  rw [q2]
  exact h)
theorem q_aast (hG : Cl S M Post G) {a n b : Nat} {j : Int} (hl : lk pc M.1 = some (.aastore, nx, cst, x)) (hk : hK B a = (7, n)) (hb : hK B b = (12, 0)) (hj : 0 ≤ j ∧ j < (n : Int) ∧ j < 2147483648) (h : G nx L r (wI (sR B a j.toNat (some b)) I)) : G pc L (.ref b :: .int (i3 j) :: .ref a :: r) (wI B I) := hG _ _ _ _ (by
  unfold stepP
  rw [hl]
  obtain ⟨q1, q2⟩ := i3_inN hj
  refine ⟨n, hk, hb, q1, ?_⟩
  rw [q2]
  exact h)
theorem q_new (hG : Cl S M Post G) {j : _} {ci m : Nat} (hl : lk pc M.1 = some (.new j, nx, cst, [ci, m])) (h : G nx L (.ref (hn B) :: r) (wI (mk B (10 + ci, 0) m) (zM I (hn B)))) : G pc L (r) (wI B I) := hG _ _ _ _ (by
  unfold stepP
  rw [hl]
  show G nx L (.ref (hn B) :: r) (mk (wI B I) (10 + ci, 0) m)
  rw [wI_mk]
  exact h)
theorem q_throw (hG : Cl S M Post G) {j : _} {E : Nat} (hl : lk pc M.1 = some (.new j, nx, cst, [E])) (h : Post (.inr E) (wI (junk B 6) I)) : G pc L [] (wI B I) := hG _ _ _ _ (by
  unfold stepP
  rw [hl]
  exact h)
theorem q_newarr (hG : Cl S M Post G) {j : _} {t : Nat} {m : Int} (hl : lk pc M.1 = some (.newarray j, nx, cst, t :: x)) (hm : 0 ≤ m ∧ m ≤ 65536) (h : G nx L (.ref (hn B) :: r) (wI (mk B (t, m.toNat) m.toNat) (zM I (hn B)))) : G pc L (.int (i3 m) :: r) (wI B I) := hG _ _ _ _ (by
  unfold stepP
  rw [hl]
  have hr : r32 m := ⟨by omega, by omega⟩
  refine ⟨fun q => by have := (i3_lt hr r32_0).mp q; omega, by rw [i3_cl hr]; omega, ?_⟩
  rw [i3_cl hr, wI_mk]
  exact h)
theorem q_anewarr (hG : Cl S M Post G) {j : _} {m : Int} (hl : lk pc M.1 = some (.anewarray j, nx, cst, x)) (hm : 0 ≤ m ∧ m ≤ 65536) (h : G nx L (.ref (hn B) :: r) (wI (mk B (7, m.toNat) m.toNat) (zM I (hn B)))) : G pc L (.int (i3 m) :: r) (wI B I) := hG _ _ _ _ (by
  unfold stepP
  rw [hl]
  have hr : r32 m := ⟨by omega, by omega⟩
  refine ⟨fun q => by have := (i3_lt hr r32_0).mp q; omega, by rw [i3_cl hr]; omega, ?_⟩
  rw [i3_cl hr, wI_mk]
  exact h)
theorem q_iret0 (hG : Cl S M Post G) {v : Int} (hl : lk pc M.1 = some (.ireturn, nx, cst, x)) (ht : M.2.2.1 = 0) (h : Post (.inl (some (.int (i3 v)))) A) : G pc L [.int (i3 v)] A := hG _ _ _ _ (by
  unfold stepP
  rw [hl, ht]
  exact ⟨trivial, h⟩)
theorem q_iret4 (hG : Cl S M Post G) {v : Int} (hl : lk pc M.1 = some (.ireturn, nx, cst, x)) (ht : M.2.2.1 = 4) (hv : -128 ≤ v ∧ v < 128) (h : Post (.inl (some (.int (i3 v)))) A) : G pc L [.int (i3 v)] A := hG _ _ _ _ (by
  unfold stepP
  rw [hl, ht]
  exact ⟨i3_nb hv, h⟩)
theorem q_iret5 (hG : Cl S M Post G) {v : Int} (hl : lk pc M.1 = some (.ireturn, nx, cst, x)) (ht : M.2.2.1 = 5) (hv : v = 0 ∨ v = 1) (h : Post (.inl (some (.int (i3 v)))) A) : G pc L [.int (i3 v)] A := hG _ _ _ _ (by
  unfold stepP
  rw [hl, ht]
  exact ⟨i3_nZ hv, h⟩)
theorem q_iret3 (hG : Cl S M Post G) {v : Int} (hl : lk pc M.1 = some (.ireturn, nx, cst, x)) (ht : M.2.2.1 = 3) (hv : 0 ≤ v ∧ v < 65536) (h : Post (.inl (some (.int (i3 v)))) A) : G pc L [.int (i3 v)] A := hG _ _ _ _ (by
  unfold stepP
  rw [hl, ht]
  exact ⟨i3_nz hv, h⟩)
theorem q_lret (hG : Cl S M Post G) {v : _} (hl : lk pc M.1 = some (.lreturn, nx, cst, x)) (h : Post (.inl (some (.long v))) A) : G pc L [.long v] A := hG _ _ _ _ (by
  unfold stepP
  rw [hl]
  exact h)
theorem q_dret (hG : Cl S M Post G) {v : _} (hl : lk pc M.1 = some (.dreturn, nx, cst, x)) (h : Post (.inl (some (.double v))) A) : G pc L [.double v] A := hG _ _ _ _ (by
  unfold stepP
  rw [hl]
  exact h)
theorem q_fret (hG : Cl S M Post G) {v : _} (hl : lk pc M.1 = some (.freturn, nx, cst, x)) (h : Post (.inl (some (.float v))) A) : G pc L [.float v] A := hG _ _ _ _ (by
  unfold stepP
  rw [hl]
  exact h)
theorem q_aret (hG : Cl S M Post G) {v : _} (hl : lk pc M.1 = some (.areturn, nx, cst, x)) (h : Post (.inl (some (.ref v))) A) : G pc L [.ref v] A := hG _ _ _ _ (by
  unfold stepP
  rw [hl]
  exact h)
theorem q_vret (hG : Cl S M Post G) (hl : lk pc M.1 = some (.return_, nx, cst, x)) (h : Post (.inl none) A) : G pc L [] A := hG _ _ _ _ (by
  unfold stepP
  rw [hl]
  exact h)
theorem q_callV0 (hG : Cl S M Post G) {j : _} {k np : Nat} {as sx : List Value} (hl : lk pc M.1 = some (.invokevirtual j, nx, cst, [0, k, np])) (hp : popN np sx [] = some (as, r)) (hc : (Nat.ble (catS r) 8 && noJ as) = true) (h : S k as A (cont M.2.2.2 Post pc nx L G r)) : G pc L sx A := hG _ _ _ _ (by
  unfold stepP
  rw [hl]
  show (match popN np sx [] with | some (as, r) => callP S M.2.2.2 Post pc nx L G k as r A | none => False)
  rw [hp]
  show callP S M.2.2.2 Post pc nx L G k as r A
  unfold callP
  rw [hc]
  exact h)
theorem q_callV7 (hG : Cl S M Post G) {j : _} {k np b : Nat} {as sx : List Value} (hl : lk pc M.1 = some (.invokevirtual j, nx, cst, [7, k, np])) (hp : popN np sx [] = some (.ref b :: as, r)) (hc : (Nat.ble (catS r) 8 && noJ (.ref b :: as)) = true) (h : S k (.ref b :: as) A (cont M.2.2.2 Post pc nx L G r)) : G pc L sx A := hG _ _ _ _ (by
  unfold stepP
  rw [hl]
  show (match popN np sx [] with | some (.ref b :: as, r) => callP S M.2.2.2 Post pc nx L G k (.ref b :: as) r A | _ => False)
  rw [hp]
  show callP S M.2.2.2 Post pc nx L G k (.ref b :: as) r A
  unfold callP
  rw [hc]
  exact h)
theorem q_callV6 (hG : Cl S M Post G) {j : _} {k np b ci : Nat} {as sx : List Value} (hl : lk pc M.1 = some (.invokevirtual j, nx, cst, [6, k, np, ci])) (hp : popN np sx [] = some (.ref b :: as, r)) (hc : (Nat.ble (catS r) 8 && noJ (.ref b :: as)) = true) (hk : hK A b = (10 + ci, 0)) (h : S k (.ref b :: as) A (cont M.2.2.2 Post pc nx L G r)) : G pc L sx A := hG _ _ _ _ (by
  unfold stepP
  rw [hl]
  show (match popN np sx [] with | some (as, r) => (match as with | .ref b :: _ => hK A b = (10 + ci, 0) | _ => False) ∧ callP S M.2.2.2 Post pc nx L G k as r A | none => False)
  rw [hp]
  refine ⟨hk, ?_⟩
  unfold callP
  rw [hc]
  exact h)
theorem q_callS0 (hG : Cl S M Post G) {j : _} {k np : Nat} {as sx : List Value} (hl : lk pc M.1 = some (.invokestatic j, nx, cst, [0, k, np])) (hp : popN np sx [] = some (as, r)) (hc : (Nat.ble (catS r) 8 && noJ as) = true) (h : S k as A (cont M.2.2.2 Post pc nx L G r)) : G pc L sx A := hG _ _ _ _ (by
  unfold stepP
  rw [hl]
  show (match popN np sx [] with | some (as, r) => callP S M.2.2.2 Post pc nx L G k as r A | none => False)
  rw [hp]
  show callP S M.2.2.2 Post pc nx L G k as r A
  unfold callP
  rw [hc]
  exact h)
theorem q_callS7 (hG : Cl S M Post G) {j : _} {k np b : Nat} {as sx : List Value} (hl : lk pc M.1 = some (.invokestatic j, nx, cst, [7, k, np])) (hp : popN np sx [] = some (.ref b :: as, r)) (hc : (Nat.ble (catS r) 8 && noJ (.ref b :: as)) = true) (h : S k (.ref b :: as) A (cont M.2.2.2 Post pc nx L G r)) : G pc L sx A := hG _ _ _ _ (by
  unfold stepP
  rw [hl]
  show (match popN np sx [] with | some (.ref b :: as, r) => callP S M.2.2.2 Post pc nx L G k (.ref b :: as) r A | _ => False)
  rw [hp]
  show callP S M.2.2.2 Post pc nx L G k (.ref b :: as) r A
  unfold callP
  rw [hc]
  exact h)
theorem q_callS6 (hG : Cl S M Post G) {j : _} {k np b ci : Nat} {as sx : List Value} (hl : lk pc M.1 = some (.invokestatic j, nx, cst, [6, k, np, ci])) (hp : popN np sx [] = some (.ref b :: as, r)) (hc : (Nat.ble (catS r) 8 && noJ (.ref b :: as)) = true) (hk : hK A b = (10 + ci, 0)) (h : S k (.ref b :: as) A (cont M.2.2.2 Post pc nx L G r)) : G pc L sx A := hG _ _ _ _ (by
  unfold stepP
  rw [hl]
  show (match popN np sx [] with | some (as, r) => (match as with | .ref b :: _ => hK A b = (10 + ci, 0) | _ => False) ∧ callP S M.2.2.2 Post pc nx L G k as r A | none => False)
  rw [hp]
  refine ⟨hk, ?_⟩
  unfold callP
  rw [hc]
  exact h)
theorem q_callI0 (hG : Cl S M Post G) {j : _} {k np : Nat} {as sx : List Value} (hl : lk pc M.1 = some (.invokespecial j, nx, cst, [0, k, np])) (hp : popN np sx [] = some (as, r)) (hc : (Nat.ble (catS r) 8 && noJ as) = true) (h : S k as A (cont M.2.2.2 Post pc nx L G r)) : G pc L sx A := hG _ _ _ _ (by
  unfold stepP
  rw [hl]
  show (match popN np sx [] with | some (as, r) => callP S M.2.2.2 Post pc nx L G k as r A | none => False)
  rw [hp]
  show callP S M.2.2.2 Post pc nx L G k as r A
  unfold callP
  rw [hc]
  exact h)
theorem q_callI7 (hG : Cl S M Post G) {j : _} {k np b : Nat} {as sx : List Value} (hl : lk pc M.1 = some (.invokespecial j, nx, cst, [7, k, np])) (hp : popN np sx [] = some (.ref b :: as, r)) (hc : (Nat.ble (catS r) 8 && noJ (.ref b :: as)) = true) (h : S k (.ref b :: as) A (cont M.2.2.2 Post pc nx L G r)) : G pc L sx A := hG _ _ _ _ (by
  unfold stepP
  rw [hl]
  show (match popN np sx [] with | some (.ref b :: as, r) => callP S M.2.2.2 Post pc nx L G k (.ref b :: as) r A | _ => False)
  rw [hp]
  show callP S M.2.2.2 Post pc nx L G k (.ref b :: as) r A
  unfold callP
  rw [hc]
  exact h)
theorem q_callI6 (hG : Cl S M Post G) {j : _} {k np b ci : Nat} {as sx : List Value} (hl : lk pc M.1 = some (.invokespecial j, nx, cst, [6, k, np, ci])) (hp : popN np sx [] = some (.ref b :: as, r)) (hc : (Nat.ble (catS r) 8 && noJ (.ref b :: as)) = true) (hk : hK A b = (10 + ci, 0)) (h : S k (.ref b :: as) A (cont M.2.2.2 Post pc nx L G r)) : G pc L sx A := hG _ _ _ _ (by
  unfold stepP
  rw [hl]
  show (match popN np sx [] with | some (as, r) => (match as with | .ref b :: _ => hK A b = (10 + ci, 0) | _ => False) ∧ callP S M.2.2.2 Post pc nx L G k as r A | none => False)
  rw [hp]
  refine ⟨hk, ?_⟩
  unfold callP
  rw [hc]
  exact h)
theorem q_objI (hG : Cl S M Post G) {j : _} {b : Nat} (hl : lk pc M.1 = some (.invokespecial j, nx, cst, [1])) (hc : Nat.ble (catS r) 8 = true) (h : G nx L r A) : G pc L (.ref b :: r) A := hG _ _ _ _ (by
  unfold stepP
  rw [hl]
  show cond (Nat.ble (catS r) 8) _ False
  rw [hc]
  exact h)
theorem q_max (hG : Cl S M Post G) {j : _} {a b : Int} (hl : lk pc M.1 = some (.invokestatic j, nx, cst, [3])) (ha : r32 a) (hb : r32 b) (hc : Nat.ble (catS r) 8 = true) (h : G nx L (.int (i3 (if a < b then b else a)) :: r) A) : G pc L (.int (i3 b) :: .int (i3 a) :: r) (A) := hG _ _ _ _ (by
  unfold stepP
  rw [hl]
  show cond (Nat.ble (catS r) 8) (G nx L (.int (if i3 a < i3 b then i3 b else i3 a) :: r) A) False
  rw [hc]
  have e : (if i3 a < i3 b then i3 b else i3 a) = i3 (if a < b then b else a) := by
    by_cases q : a < b
    · rw [if_pos q, if_pos ((i3_lt ha hb).mpr q)]
    · rw [if_neg q, if_neg (fun z => q ((i3_lt ha hb).mp z))]
  rw [e]
  exact h)
theorem q_min (hG : Cl S M Post G) {j : _} {a b : Int} (hl : lk pc M.1 = some (.invokestatic j, nx, cst, [4])) (ha : r32 a) (hb : r32 b) (hc : Nat.ble (catS r) 8 = true) (h : G nx L (.int (i3 (if b < a then b else a)) :: r) A) : G pc L (.int (i3 b) :: .int (i3 a) :: r) (A) := hG _ _ _ _ (by
  unfold stepP
  rw [hl]
  show cond (Nat.ble (catS r) 8) (G nx L (.int (if i3 b < i3 a then i3 b else i3 a) :: r) A) False
  rw [hc]
  have e : (if i3 b < i3 a then i3 b else i3 a) = i3 (if b < a then b else a) := by
    by_cases q : b < a
    · rw [if_pos q, if_pos ((i3_lt hb ha).mpr q)]
    · rw [if_neg q, if_neg (fun z => q ((i3_lt hb ha).mp z))]
  rw [e]
  exact h)
theorem q_abs (hG : Cl S M Post G) {j : _} {a : Int} (hl : lk pc M.1 = some (.invokestatic j, nx, cst, [5])) (ha : r32 a) (hc : Nat.ble (catS r) 8 = true) (h : G nx L (.int (i3 (if 0 ≤ a then a else 0 - a)) :: r) A) : G pc L (.int (i3 a) :: r) (A) := hG _ _ _ _ (by
  unfold stepP
  rw [hl]
  show cond (Nat.ble (catS r) 8) (G nx L (.int (if i3 0 ≤ i3 a then i3 a else i3 0 - i3 a) :: r) A) False
  rw [hc, i3_sub]
  have e : (if i3 0 ≤ i3 a then i3 a else i3 (0 - a)) = i3 (if 0 ≤ a then a else 0 - a) := by
    by_cases q : 0 ≤ a
    · rw [if_pos q, if_pos ((i3_le r32_0 ha).mpr q)]
    · rw [if_neg q, if_neg (fun z => q ((i3_le r32_0 ha).mp z))]
  rw [e]
  exact h)
theorem q_copyI (hG : Cl S M Post G) {j : _} {s d n0 n1 : Nat} {n sp dp : Int} (hl : lk pc M.1 = some (.invokestatic j, nx, cst, [2])) (hs : hK B s = (1, n0)) (hd : hK B d = (1, n1)) (h1 : 0 ≤ sp ∧ 0 ≤ dp ∧ 0 ≤ n ∧ sp + n ≤ (n0 : Int) ∧ dp + n ≤ (n1 : Int) ∧ sp < 2147483648 ∧ dp < 2147483648 ∧ n < 2147483648) (h : G nx L [] (wI B (cpM I s sp.toNat d dp.toNat n.toNat))) : G pc L [.int (i3 n), .int (i3 dp), .ref d, .int (i3 sp), .ref s] (wI B I) := hG _ _ _ _ (by
  unfold stepP
  rw [hl]
  have rn : r32 n := ⟨by omega, by omega⟩
  have rs : r32 sp := ⟨by omega, by omega⟩
  have rd : r32 dp := ⟨by omega, by omega⟩
  refine ⟨1, n0, 1, n1, hs, hd, Or.inl ⟨rfl, rfl⟩, fun q => by have := (i3_lt rs r32_0).mp q; omega, fun q => by have := (i3_lt rd r32_0).mp q; omega, fun q => by have := (i3_lt rn r32_0).mp q; omega, by rw [i3_cl rs, i3_cl rn]; omega, by rw [i3_cl rd, i3_cl rn]; omega, fun q hq => ?_, ?_⟩
  · rw [i3_cl rn] at hq
    rw [i3_cl rs]
    exact trivial
  · rw [i3_cl rs, i3_cl rn, i3_cl rd, wI_cp]
    exact h)
theorem q_copyC (hG : Cl S M Post G) {j : _} {s d n0 n1 : Nat} {n sp dp : Int} (hl : lk pc M.1 = some (.invokestatic j, nx, cst, [2])) (hs : hK B s = (3, n0)) (hd : hK B d = (3, n1)) (h1 : 0 ≤ sp ∧ 0 ≤ dp ∧ 0 ≤ n ∧ sp + n ≤ (n0 : Int) ∧ dp + n ≤ (n1 : Int) ∧ sp < 2147483648 ∧ dp < 2147483648 ∧ n < 2147483648) (hf : ∀ j, j < n.toNat → 0 ≤ I s (sp.toNat + j) ∧ I s (sp.toNat + j) < 65536) (h : G nx L [] (wI B (cpM I s sp.toNat d dp.toNat n.toNat))) : G pc L [.int (i3 n), .int (i3 dp), .ref d, .int (i3 sp), .ref s] (wI B I) := hG _ _ _ _ (by
  unfold stepP
  rw [hl]
  have rn : r32 n := ⟨by omega, by omega⟩
  have rs : r32 sp := ⟨by omega, by omega⟩
  have rd : r32 dp := ⟨by omega, by omega⟩
  refine ⟨3, n0, 3, n1, hs, hd, Or.inr (Or.inl ⟨rfl, rfl⟩), fun q => by have := (i3_lt rs r32_0).mp q; omega, fun q => by have := (i3_lt rd r32_0).mp q; omega, fun q => by have := (i3_lt rn r32_0).mp q; omega, by rw [i3_cl rs, i3_cl rn]; omega, by rw [i3_cl rd, i3_cl rn]; omega, fun q hq => ?_, ?_⟩
  · rw [i3_cl rn] at hq
    rw [i3_cl rs]
    exact i3_nz (hf q hq)
  · rw [i3_cl rs, i3_cl rn, i3_cl rd, wI_cp]
    exact h)
theorem q_copyB (hG : Cl S M Post G) {j : _} {s d n0 n1 : Nat} {n sp dp : Int} (hl : lk pc M.1 = some (.invokestatic j, nx, cst, [2])) (hs : hK B s = (4, n0)) (hd : hK B d = (4, n1)) (h1 : 0 ≤ sp ∧ 0 ≤ dp ∧ 0 ≤ n ∧ sp + n ≤ (n0 : Int) ∧ dp + n ≤ (n1 : Int) ∧ sp < 2147483648 ∧ dp < 2147483648 ∧ n < 2147483648) (hf : ∀ j, j < n.toNat → -128 ≤ I s (sp.toNat + j) ∧ I s (sp.toNat + j) < 128) (h : G nx L [] (wI B (cpM I s sp.toNat d dp.toNat n.toNat))) : G pc L [.int (i3 n), .int (i3 dp), .ref d, .int (i3 sp), .ref s] (wI B I) := hG _ _ _ _ (by
  unfold stepP
  rw [hl]
  have rn : r32 n := ⟨by omega, by omega⟩
  have rs : r32 sp := ⟨by omega, by omega⟩
  have rd : r32 dp := ⟨by omega, by omega⟩
  refine ⟨4, n0, 4, n1, hs, hd, Or.inr (Or.inr ⟨Or.inl rfl, rfl⟩), fun q => by have := (i3_lt rs r32_0).mp q; omega, fun q => by have := (i3_lt rd r32_0).mp q; omega, fun q => by have := (i3_lt rn r32_0).mp q; omega, by rw [i3_cl rs, i3_cl rn]; omega, by rw [i3_cl rd, i3_cl rn]; omega, fun q hq => ?_, ?_⟩
  · rw [i3_cl rn] at hq
    rw [i3_cl rs]
    exact i3_nb (hf q hq)
  · rw [i3_cl rs, i3_cl rn, i3_cl rd, wI_cp]
    exact h)
theorem q_copyK (hG : Cl S M Post G) {j : _} {s d n0 n1 : Nat} {n sp dp : Int} (hl : lk pc M.1 = some (.invokestatic j, nx, cst, [2])) (hs : hK B s = (8, n0)) (hd : hK B d = (4, n1)) (h1 : 0 ≤ sp ∧ 0 ≤ dp ∧ 0 ≤ n ∧ sp + n ≤ (n0 : Int) ∧ dp + n ≤ (n1 : Int) ∧ sp < 2147483648 ∧ dp < 2147483648 ∧ n < 2147483648) (hf : ∀ j, j < n.toNat → -128 ≤ I s (sp.toNat + j) ∧ I s (sp.toNat + j) < 128) (h : G nx L [] (wI B (cpM I s sp.toNat d dp.toNat n.toNat))) : G pc L [.int (i3 n), .int (i3 dp), .ref d, .int (i3 sp), .ref s] (wI B I) := hG _ _ _ _ (by
  unfold stepP
  rw [hl]
  have rn : r32 n := ⟨by omega, by omega⟩
  have rs : r32 sp := ⟨by omega, by omega⟩
  have rd : r32 dp := ⟨by omega, by omega⟩
  refine ⟨8, n0, 4, n1, hs, hd, Or.inr (Or.inr ⟨Or.inr rfl, rfl⟩), fun q => by have := (i3_lt rs r32_0).mp q; omega, fun q => by have := (i3_lt rd r32_0).mp q; omega, fun q => by have := (i3_lt rn r32_0).mp q; omega, by rw [i3_cl rs, i3_cl rn]; omega, by rw [i3_cl rd, i3_cl rn]; omega, fun q hq => ?_, ?_⟩
  · rw [i3_cl rn] at hq
    rw [i3_cl rs]
    exact i3_nb (hf q hq)
  · rw [i3_cl rs, i3_cl rn, i3_cl rd, wI_cp]
    exact h)
end
