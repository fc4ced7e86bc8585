/-- the private methods of StringBuilder's superclass, as its objects select them -/
def sbM : List MethodName := [⟨"java/lang/AbstractStringBuilder", "ensureCapacityInternal", "(I)V"⟩, ⟨"java/lang/AbstractStringBuilder", "newCapacity", "(I)I"⟩, ⟨"java/lang/AbstractStringBuilder", "putStringAt", "(ILjava/lang/String;)V"⟩, ⟨"java/lang/AbstractStringBuilder", "inflateIfNeededFor", "(Ljava/lang/String;)V"⟩]
def lw_tb : List Jvm.Cond := sbM.map (fun y => Jvm.Cond.selects "java/lang/StringBuilder" y y) ++ lw_tbl
theorem sb_selects {y : MethodName} {s : State} {args : Array Value} {n : Nat} (hyc : y.cls = "java/lang/AbstractStringBuilder")
    (hins : (Jvm.Cond.instantiable "java/lang/StringBuilder" n).before args s = true) (hpriv : (Jvm.Cond.privateMethod y).before args s = true) (hinst : (Jvm.Cond.instanceMethod y).before args s = true)
    (hsel : (Jvm.Cond.selects "java/lang/StringBuilder" ⟨"java/lang/AbstractStringBuilder", "isLatin1", "()Z"⟩ ⟨"java/lang/AbstractStringBuilder", "isLatin1", "()Z"⟩).before args s = true) :
    (Jvm.Cond.selects "java/lang/StringBuilder" y y).before args s = true := by
  obtain ⟨c, k, hc, hk, -, hniab, -, -⟩ := Cond.instantiable_spec hins
  obtain ⟨mk, methM, hnamed, hmethM, -, -⟩ := Cond.instanceMethod_spec hinst
  have hy : y.cls ≠ "java/lang/invoke/MethodHandle" ∧ y.cls ≠ "java/lang/invoke/VarHandle" := by rw [hyc]; decide
  have hfound : s.methodFound? y.cls y.name y.desc = some mk := State.methodFound?_of_named hnamed hy
  obtain ⟨c2, r2, m2, q1, q2, q3, q4, kP, hkP, hkPi⟩ := Cond.selects_spec hsel
  have hnm2 : s.methodNamed? ⟨"java/lang/AbstractStringBuilder", "isLatin1", "()Z"⟩ = some r2 ∨ True := Or.inr trivial
  have hr2 : s.methodFound? "java/lang/AbstractStringBuilder" "isLatin1" "()Z" = some m2 := State.methodFound?_of_named q3 (by decide)
  have hm : r2 = m2 := Option.some.inj (q2.symm.trans hr2)
  subst hm
  have hcl : mk.cls = r2.cls := by
    have h1 := findClass_of_methodNamed hnamed
    have h2 := findClass_of_methodNamed q3
    rw [hyc] at h1
    exact Option.some.inj (h1.symm.trans h2)
  have hsl : selectMethod {} s.vm c mk = .method mk := selectMethod_private hmethM (Cond.privateMethod_at hpriv mk methM hnamed hmethM)
  simp only [Jvm.Cond.before, Jvm.Cond.holds, Cond.value, hc, hfound, hnamed, hsl, hcl, hkP]
  simp
  exact hkPi
theorem lw_tb_ok {args : Array Value} {s : State} (h : ∀ w ∈ lw_tbl, w.before args s = true) : ∀ w ∈ lw_tb, w.before args s = true := by
  have hi : Jvm.Cond.instantiable "java/lang/StringBuilder" 4 ∈ lw_tbl := by decide +kernel
  have hs : Jvm.Cond.selects "java/lang/StringBuilder" ⟨"java/lang/AbstractStringBuilder", "isLatin1", "()Z"⟩ ⟨"java/lang/AbstractStringBuilder", "isLatin1", "()Z"⟩ ∈ lw_tbl := by decide +kernel
  have hp : sbM.all (fun y => decide (y.cls = "java/lang/AbstractStringBuilder") && decide (Jvm.Cond.privateMethod y ∈ lw_tbl) && decide (Jvm.Cond.instanceMethod y ∈ lw_tbl)) = true := by decide +kernel
  intro w hw
  rcases List.mem_append.mp hw with hw | hw
  · obtain ⟨y, hy, rfl⟩ := List.mem_map.mp hw
    have h1 := List.all_eq_true.mp hp y hy
    simp only [Bool.and_eq_true, decide_eq_true_eq] at h1
    exact sb_selects h1.1.1 (h _ hi) (h _ h1.1.2) (h _ h1.2) (h _ hs)
  · exact h w hw
