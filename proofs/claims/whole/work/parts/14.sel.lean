/-- a private method of a superclass, called on an object of a class below: itself (y0: any method of that superclass of which 'selects' is known) -/
theorem sel_priv {C : String} {y y0 : MethodName} {s : State} {args : Array Value} {n : Nat} (hy : y.cls ≠ "java/lang/invoke/MethodHandle" ∧ y.cls ≠ "java/lang/invoke/VarHandle")
    (hins : (Cond.instantiable C n).before args s = true) (hpriv : (Cond.privateMethod y).before args s = true) (hinst : (Cond.instanceMethod y).before args s = true)
    (h0c : y0.cls = y.cls) (h0i : (Cond.instanceMethod y0).before args s = true) (h0 : (Cond.selects C y0 y0).before args s = true) :
    (Cond.selects C y y).before args s = true := by
  obtain ⟨c, k, hc, hk, -, hniab, -, -⟩ := Cond.instantiable_spec hins
  obtain ⟨mk, methM, hnamed, hmethM, -, -⟩ := Cond.instanceMethod_spec hinst
  obtain ⟨m0, meth0, hnamed0, hmeth0, -, -⟩ := Cond.instanceMethod_spec h0i
  have hfound : s.methodFound? y.cls y.name y.desc = some mk := State.methodFound?_of_named hnamed hy
  have hfound0 : s.methodFound? y0.cls y0.name y0.desc = some m0 := State.methodFound?_of_named hnamed0 (by rw [h0c]; exact hy)
  have hcls : m0.cls = mk.cls := by
    have e1 := findClass_of_methodNamed hnamed0
    have e2 := findClass_of_methodNamed hnamed
    rw [h0c] at e1
    exact Option.some.inj (e1.symm.trans e2)
  have hany : (s.vm.classes[mk.cls]?).any (fun x => !x.isInterface) = true := by
    simp only [Cond.before, Cond.holds, Cond.value, hc, hfound0, hnamed0] at h0
    rw [← hcls]
    cases hs : selectMethod {} s.vm c m0 with
    | method m9 =>
      rw [hs] at h0
      have h1 : (decide (m9 = m0) && (s.vm.classes[m0.cls]?).any (fun x => !x.isInterface)) = true := by simpa using h0
      simp only [Bool.and_eq_true] at h1
      exact h1.2
    | _ =>
      rw [hs] at h0
      exact absurd h0 (by simp)
  have hsel : selectMethod {} s.vm c mk = .method mk := selectMethod_private hmethM (Cond.privateMethod_at hpriv mk methM hnamed hmethM)
  simp only [Cond.before, Cond.holds, Cond.value, hc, hfound, hnamed, hsel]
  simp only [decide_true, Bool.true_and, hany]
  rfl
