/-- a field of an object of the world, as a fact of the heap -/
theorem zz_OF {D : va_G} {cl : List vw_C} {tys : List (ClassId × FieldType)} {ws : va_W} {args : Array Value} {s : State} {H : Heap} {C : String} {T : u_T} {N ci a : Nat} {fs : List Value} (htb : ∀ w ∈ TBL, w.before args s = true) (hin : ∀ w ∈ u_ws C T N, w ∈ TBL) (hK : va_K D cl tys s) (hP : va_P D cl ws H) (q0 : Nat) (he : ws[q0]? = some (a, .inr (ci, fs))) (hc : cl[ci]? = some (C, T, N)) (k : Nat) (hk : k < N) {v : Value} (hv : fs[k]? = some v) : va_OF (T k).1 (T k).2.1 (T k).2.2.1 v a NA s H := by
  obtain ⟨r, h1, cell, q1, q2, q3, q4⟩ := hP q0 _ he
  have hr : r = (C, T, N) := Option.some.inj (h1.symm.trans hc)
  subst hr
  obtain ⟨hS, hfc, kC, hkC, hkind⟩ := hK.1 ci _ hc
  obtain ⟨cf, kf, fi, f, hi, hsl⟩ := hS k hk
  refine ⟨cf, kf, fi, f, cell, hi, (u_facts hfc hkC (u_lays htb hin hk) hi).1, q1, (by rw [q3]; exact fun h => (by cases h)), ?_, id⟩
  rw [hsl, q4 k hk]
  simp [vp_V, hv]
theorem zz_O {D : va_G} {cl : List vw_C} {tys : List (ClassId × FieldType)} {ws : va_W} {s : State} {H : Heap} {C : String} {T : u_T} {N ci a : Nat} {fs : List Value} (hK : va_K D cl tys s) (hP : va_P D cl ws H) (q0 : Nat) (he : ws[q0]? = some (a, .inr (ci, fs))) (hc : cl[ci]? = some (C, T, N)) : va_O C a NA s H := by
  obtain ⟨cell, h1, h2, h3⟩ := va_recv hK hP hc he
  exact ⟨cell, h1, h2, h3, id⟩
/-- bytes of the world, as a fact of the heap -/
theorem zz_BV {D : va_G} {cl : List vw_C} {tys : List (ClassId × FieldType)} {ws : va_W} {s : State} {H : Heap} {v n : Nat} {cB : ClassId} {f : Nat → Int32} {tx : List Nat} (hK : va_K D cl tys s) (hP : va_P D cl ws H) (q0 t0 : Nat) (he : ws[q0]? = some (v, .inl (cB, n, .inl f))) (ht : tys[t0]? = some (cB, .byte)) (hn : n = tx.length) (hl : tx.length < 65536) (hc : ∀ c ∈ tx, c < 128) (hf : ∀ j, j < n → f j = sb_b (tx.getD j 0)) : BV s H v tx := by
  subst hn
  have hcell : H[v]? = some (arrV cB tx.length (fun j => .int (f j))) := hP q0 _ he
  refine ⟨⟨_, hcell, (hK.2 t0 _ ht).1 _ _, (fun h => (by cases h)), ?_, ?_, ?_, id⟩, hc, hl⟩
  · rw [arrV_size]; exact Nat.le_refl _
  · rw [arrV_size]
  · intro j hj
    rw [arrV_read _ _ hj, hf j hj]
/-- a String of the world, read as SV -/
theorem zz_SV {dC : Nat → ClassId} {dI : Nat → Nat → Nat} {tys : List (ClassId × FieldType)} {ws : va_W} {args : Array Value} {s : State} {H : Heap} {a v : Nat} {h z : Int32} {tx : List Nat} (htb : ∀ w ∈ TBL, w.before args s = true) (hK : va_K (dC, dI) vwCl tys s) (hP : va_P (dC, dI) vwCl ws H) (hm : (a, Sum.inr (15, [Value.ref v, Value.int 0, Value.int h, Value.int z])) ∈ ws) (hB : BV s H v tx) : SV s H a v tx := by
  obtain ⟨q0, he⟩ := List.getElem?_of_mem hm
  exact ⟨zz_O (T := T_ST) (N := 4) hK hP q0 he rfl, zz_OF htb in_ST hK hP q0 he rfl 1 (by decide) rfl, zz_OF htb in_ST hK hP q0 he rfl 0 (by decide) rfl, hB⟩
