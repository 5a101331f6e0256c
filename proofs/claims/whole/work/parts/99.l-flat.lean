/-! rows moved in the arrays -/
theorem TRow.named {q : Row} {nm : List Nat} {k v ta tl xa xl xa9 xl9 : Int32} {u : Int64} {pf : Nat → Int32} {pn : Nat} (h : TRow q k v ta tl xa xl u pf pn) (h0 : nm = [] → xl9 = -1) (h1 : ∀ c s, nm = c :: s → ∃ p, xa9 = nI p ∧ xl9 = nI s.length ∧ TXP pf pn p s) : TRow (q.1, q.2.1, q.2.2.1, q.2.2.2.1, nm) k v ta tl xa9 xl9 u pf pn := by
  obtain ⟨g1, g2, g3, g4, g5, g6, g7, g8, g9⟩ := h
  exact ⟨g1, g2, g3, g4, g5, g6, g7, h0, h1⟩
theorem TRow.level {q : Row} {x : Nat} {k v v9 ta tl xa xl : Int32} {u : Int64} {pf : Nat → Int32} {pn : Nat} (h : TRow q k v ta tl xa xl u pf pn) (h0 : v9 = nI x) : TRow (q.1, x, q.2.2) k v9 ta tl xa xl u pf pn := by
  obtain ⟨g1, g2, g3, g4, g5, g6, g7, g8, g9⟩ := h
  exact ⟨g1, g2, h0, g4, g5, g6, g7, g8, g9⟩
theorem TRow.eqs {q : Row} {k v ta tl xa xl k9 v9 ta9 tl9 xa9 xl9 : Int32} {u u9 : Int64} {pf : Nat → Int32} {pn : Nat} (h : TRow q k v ta tl xa xl u pf pn) (h1 : k9 = k) (h2 : v9 = v) (h3 : ta9 = ta) (h4 : tl9 = tl) (h5 : xa9 = xa) (h6 : xl9 = xl) (h7 : u9 = u) : TRow q k9 v9 ta9 tl9 xa9 xl9 u9 pf pn := by
  subst h1 h2 h3 h4 h5 h6 h7; exact h
theorem setNm_get {nm : List Nat} {r : List Row} {t : Nat} {q : Row} (h : (setNm nm r)[t]? = some q) : ∃ q0, r[t]? = some q0 ∧ q = (if t = 0 then (q0.1, q0.2.1, q0.2.2.1, q0.2.2.2.1, nm) else q0) := by
  cases r with
  | nil => simp [setNm] at h
  | cons a r =>
    cases t with
    | zero => simp only [setNm, List.getElem?_cons_zero, Option.some.injEq] at h; exact ⟨a, rfl, h.symm⟩
    | succ t => simp only [setNm, List.getElem?_cons_succ] at h; exact ⟨q, h, by rw [if_neg (by omega)]⟩
theorem lift_get {l : Nat} {r : List Row} {t : Nat} {q : Row} (h : (lift l r)[t]? = some q) : ∃ q0, r[t]? = some q0 ∧ q = (q0.1, q0.2.1 + l, q0.2.2) := by
  rw [lift, List.getElem?_map] at h
  obtain ⟨q0, h1, h2⟩ := Option.map_eq_some_iff.mp h
  exact ⟨q0, h1, h2.symm⟩
theorem cpg_in {g : Int32 → Int32} {f : Nat → Int32} {s d n i : Nat} (h : i < n) : cpg g f s d n (d + i) = g (f (s + i)) := by
  unfold cpg
  rw [if_pos (by omega), show s + (d + i - d) = s + i by omega]
/-- takePart -/
theorem TR.take {tr i n N l d : Nat} {lv : Nat → Nat} {nm : List Nat} {rows r : List Row} {sf kf vf af lf xf nf : Nat → Int32} {uf : Nat → Int64} {pf : Nat → Int32} {pn : Nat} (h : TR (bsK tr) rows kf vf af lf xf nf uf pf pn) (hs : SUB rows i l nm r) (hw : WR d r) (hd : d + l < 1000) (hn : r.length = n) (hv : lv i = l) : TR 480 (setNm nm r) (va_cpy kf kf (bsK tr + i) 480 n) (cpg (fun z => z - nI (lv i)) vf (bsK tr + i) 480 n) (va_cpy af af (bsK tr + i) 480 n) (va_cpy lf lf (bsK tr + i) 480 n) (va_cpy xf xf (bsK tr + i) 480 n) (va_cpy nf nf (bsK tr + i) 480 n) (va_cpy uf uf (bsK tr + i) 480 n) pf pn := by
  obtain ⟨pre, post, e, hp, hlow⟩ := hs
  intro t q hq
  obtain ⟨q0, hq0, rfl⟩ := setNm_get hq
  have ht : t < n := by rw [← hn]; exact (List.getElem?_eq_some_iff.mp hq0).1
  have hrow : rows[i + t]? = some (if t = 0 then (q0.1, q0.2.1 + l, q0.2.2.1, q0.2.2.2.1, nm) else (q0.1, q0.2.1 + l, q0.2.2)) := by
    rw [e, List.getElem?_append_right (by omega), hp, show i + t - i = t by omega, List.getElem?_append_left (by rw [setNm_len, lift_len]; omega)]
    cases r with
    | nil => simp at hq0
    | cons a r =>
      cases t with
      | zero => simp only [List.getElem?_cons_zero, Option.some.injEq] at hq0; subst hq0; rfl
      | succ t =>
        simp only [List.getElem?_cons_succ] at hq0
        rw [if_neg (by omega)]
        show (lift l r)[t]? = _
        rw [lift, List.getElem?_map, hq0]; rfl
  have h1 := h (i + t) _ hrow
  have hlvl : q0.2.1 + 1 ≤ d := wr_lv hw q0 (List.mem_of_getElem? hq0)
  have hsub : vf (bsK tr + (i + t)) - nI (lv i) = nI q0.2.1 := by
    have : vf (bsK tr + (i + t)) = nI (q0.2.1 + l) := by
      rw [h1.2.2.1]; congr 1; split <;> rfl
    rw [this, hv, pk_sub (by omega)]; congr 1; omega
  have h2 := h1.level (x := q0.2.1) (v9 := vf (bsK tr + (i + t)) - nI (lv i)) hsub
  have h3 : TRow (if t = 0 then (q0.1, q0.2.1, q0.2.2.1, q0.2.2.2.1, nm) else q0) (kf (bsK tr + (i + t))) (vf (bsK tr + (i + t)) - nI (lv i)) (af (bsK tr + (i + t))) (lf (bsK tr + (i + t))) (xf (bsK tr + (i + t))) (nf (bsK tr + (i + t))) (uf (bsK tr + (i + t))) pf pn := by
    by_cases h0 : t = 0
    · simp only [h0, if_true] at h2 ⊢; exact h2
    · simp only [h0, if_false] at h2 ⊢; exact h2
  refine h3.eqs ?_ ?_ ?_ ?_ ?_ ?_ ?_
  · rw [cpy_in ht, Nat.add_assoc]
  · rw [cpg_in ht, Nat.add_assoc]
  · rw [cpy_in ht, Nat.add_assoc]
  · rw [cpy_in ht, Nat.add_assoc]
  · rw [cpy_in ht, Nat.add_assoc]
  · rw [cpy_in ht, Nat.add_assoc]
  · rw [cpy_in ht, Nat.add_assoc]
/-- cutOut -/
theorem TR.cut {i n N : Nat} {X C Y : List Row} {sf kf vf af lf xf nf : Nat → Int32} {uf : Nat → Int64} {pf : Nat → Int32} {pn : Nat} (h : TR 224 (X ++ (C ++ Y)) kf vf af lf xf nf uf pf pn) (hX : X.length = i) (hC : C.length = n) (hN : (X ++ (C ++ Y)).length = N) : TR 224 (X ++ Y) (va_cpy kf kf (224 + (i + n)) (224 + i) (N - (i + n))) (va_cpy vf vf (224 + (i + n)) (224 + i) (N - (i + n))) (va_cpy af af (224 + (i + n)) (224 + i) (N - (i + n))) (va_cpy lf lf (224 + (i + n)) (224 + i) (N - (i + n))) (va_cpy xf xf (224 + (i + n)) (224 + i) (N - (i + n))) (va_cpy nf nf (224 + (i + n)) (224 + i) (N - (i + n))) (va_cpy uf uf (224 + (i + n)) (224 + i) (N - (i + n))) pf pn := by
  intro j q hq
  rw [List.length_append, List.length_append] at hN
  by_cases hj : j < i
  · rw [List.getElem?_append_left (by omega)] at hq
    have h1 := h j q (by rw [List.getElem?_append_left (by omega)]; exact hq)
    refine h1.eqs ?_ ?_ ?_ ?_ ?_ ?_ ?_ <;> exact cpy_out (by omega)
  · rw [List.getElem?_append_right (by omega)] at hq
    have hl := (List.getElem?_eq_some_iff.mp hq).1
    have h1 := h (j + n) q (by rw [List.getElem?_append_right (by omega), List.getElem?_append_right (by omega), show j + n - X.length - C.length = j - X.length by omega]; exact hq)
    have e1 : 224 + j = 224 + i + (j - i) := by omega
    have e2 : 224 + (j + n) = 224 + (i + n) + (j - i) := by omega
    rw [e2] at h1
    rw [e1]
    refine h1.eqs ?_ ?_ ?_ ?_ ?_ ?_ ?_ <;> exact cpy_in (by omega)
theorem pin_lo {α : Type} {f : Nat → α} {i n N j : Nat} (h : j < i) : va_cpy (va_cpy f f (224 + i) (224 + (i + n)) (N - i)) (va_cpy f f (224 + i) (224 + (i + n)) (N - i)) 480 (224 + i) n (224 + j) = f (224 + j) := by
  rw [cpy_out (by omega), cpy_out (by omega)]
theorem pin_mid {α : Type} {f : Nat → α} {i n N j : Nat} (h : j < n) (hN : 224 + (i + n) + (N - i) ≤ 480) : va_cpy (va_cpy f f (224 + i) (224 + (i + n)) (N - i)) (va_cpy f f (224 + i) (224 + (i + n)) (N - i)) 480 (224 + i) n (224 + i + j) = f (480 + j) := by
  rw [cpy_in h, cpy_out (by omega)]
theorem pin_hi {α : Type} {f : Nat → α} {i n N j : Nat} (h : j < N - i) : va_cpy (va_cpy f f (224 + i) (224 + (i + n)) (N - i)) (va_cpy f f (224 + i) (224 + (i + n)) (N - i)) 480 (224 + i) n (224 + (i + n) + j) = f (224 + i + j) := by
  rw [cpy_out (by omega), cpy_in h]
theorem ping_lo {g : Int32 → Int32} {f : Nat → Int32} {i n N j : Nat} (h : j < i) : cpg g (va_cpy f f (224 + i) (224 + (i + n)) (N - i)) 480 (224 + i) n (224 + j) = f (224 + j) := by
  rw [cpg_src (by omega), cpy_out (by omega)]
theorem ping_mid {g : Int32 → Int32} {f : Nat → Int32} {i n N j : Nat} (h : j < n) (hN : 224 + (i + n) + (N - i) ≤ 480) : cpg g (va_cpy f f (224 + i) (224 + (i + n)) (N - i)) 480 (224 + i) n (224 + i + j) = g (f (480 + j)) := by
  rw [cpg_in h, cpy_out (by omega)]
theorem ping_hi {g : Int32 → Int32} {f : Nat → Int32} {i n N j : Nat} (h : j < N - i) : cpg g (va_cpy f f (224 + i) (224 + (i + n)) (N - i)) 480 (224 + i) n (224 + (i + n) + j) = f (224 + i + j) := by
  rw [cpg_src (by omega), cpy_in h]
theorem upd_ne {f : Nat → Int32} {k j : Nat} {x : Int32} (h : ¬ j = k) : upd f k x j = f j := by
  unfold upd; rw [if_neg h]
theorem upd_eq {f : Nat → Int32} {k : Nat} {x : Int32} : upd f k x k = x := by
  unfold upd; rw [if_pos rfl]
/-- putIn -/
theorem TR.putIn {i n N l : Nat} {up i_heldAt i_heldLen : Int32} {nm nm0 : List Nat} {X Y v : List Row} {sf kf vf af lf xf nf : Nat → Int32} {uf : Nat → Int64} {pf : Nat → Int32} {pn : Nat} (h : TR 224 (X ++ Y) kf vf af lf xf nf uf pf pn) (h2 : TR 480 (setNm nm0 v) kf vf af lf xf nf uf pf pn) (hX : X.length = i) (hN : (X ++ Y).length = N) (hv : v.length = n) (hN9 : N + n ≤ 160) (hn0 : 0 < n) (hup : up = nI l) (g0 : nm = [] → i_heldLen = -1) (g1 : ∀ c s, nm = c :: s → ∃ p, i_heldAt = nI p ∧ i_heldLen = nI s.length ∧ TXP pf pn p s) : TR 224 (X ++ (setNm nm (lift l v) ++ Y)) (va_cpy (va_cpy kf kf (224 + i) (224 + (i + n)) (N - i)) (va_cpy kf kf (224 + i) (224 + (i + n)) (N - i)) 480 (224 + i) n) (cpg (fun z => z + up) (va_cpy vf vf (224 + i) (224 + (i + n)) (N - i)) 480 (224 + i) n) (va_cpy (va_cpy af af (224 + i) (224 + (i + n)) (N - i)) (va_cpy af af (224 + i) (224 + (i + n)) (N - i)) 480 (224 + i) n) (va_cpy (va_cpy lf lf (224 + i) (224 + (i + n)) (N - i)) (va_cpy lf lf (224 + i) (224 + (i + n)) (N - i)) 480 (224 + i) n) (upd (va_cpy (va_cpy xf xf (224 + i) (224 + (i + n)) (N - i)) (va_cpy xf xf (224 + i) (224 + (i + n)) (N - i)) 480 (224 + i) n) (224 + i) i_heldAt) (upd (va_cpy (va_cpy nf nf (224 + i) (224 + (i + n)) (N - i)) (va_cpy nf nf (224 + i) (224 + (i + n)) (N - i)) 480 (224 + i) n) (224 + i) i_heldLen) (va_cpy (va_cpy uf uf (224 + i) (224 + (i + n)) (N - i)) (va_cpy uf uf (224 + i) (224 + (i + n)) (N - i)) 480 (224 + i) n) pf pn := by
  intro j q hq
  rw [List.length_append] at hN
  by_cases hj : j < i
  · rw [List.getElem?_append_left (by omega)] at hq
    have h1 := h j q (by rw [List.getElem?_append_left (by omega)]; exact hq)
    refine h1.eqs ?_ ?_ ?_ ?_ ?_ ?_ ?_
    · exact pin_lo hj
    · exact ping_lo hj
    · exact pin_lo hj
    · exact pin_lo hj
    · rw [upd_ne (by omega)]; exact pin_lo hj
    · rw [upd_ne (by omega)]; exact pin_lo hj
    · exact pin_lo hj
  · rw [List.getElem?_append_right (by omega)] at hq
    by_cases hj2 : j - i < n
    · rw [List.getElem?_append_left (by rw [setNm_len, lift_len]; omega)] at hq
      obtain ⟨q1, hq1, rfl⟩ := setNm_get hq
      obtain ⟨q0, hq0, rfl⟩ := lift_get hq1
      rw [hX] at hq0
      have e1 : 224 + j = 224 + i + (j - i) := by omega
      have hr : (setNm nm0 v)[j - i]? = some (if j - i = 0 then (q0.1, q0.2.1, q0.2.2.1, q0.2.2.2.1, nm0) else q0) := by
        generalize j - i = t at hq0
        cases v with
        | nil => simp at hq0
        | cons a v =>
          cases t with
          | zero => simp only [List.getElem?_cons_zero, Option.some.injEq] at hq0; subst hq0; rfl
          | succ t => rw [if_neg (by omega)]; exact hq0
      have h1 := h2 (j - i) _ hr
      have hup9 : vf (480 + (j - i)) + up = nI (q0.2.1 + l) := by
        have : vf (480 + (j - i)) = nI q0.2.1 := by rw [h1.2.2.1]; congr 1; split <;> rfl
        rw [this, hup, nI_add]
      have h3 := h1.level (x := q0.2.1 + l) (v9 := vf (480 + (j - i)) + up) hup9
      rw [hX]
      by_cases h0 : j - i = 0
      · rw [if_pos h0]
        simp only [if_pos h0] at h3
        have h4 := h3.named (nm := nm) (xa9 := i_heldAt) (xl9 := i_heldLen) g0 g1
        rw [e1]
        refine h4.eqs ?_ ?_ ?_ ?_ ?_ ?_ ?_
        · exact pin_mid hj2 (by omega)
        · exact ping_mid hj2 (by omega)
        · exact pin_mid hj2 (by omega)
        · exact pin_mid hj2 (by omega)
        · rw [h0]; exact upd_eq
        · rw [h0]; exact upd_eq
        · exact pin_mid hj2 (by omega)
      · rw [if_neg h0]
        simp only [if_neg h0] at h3
        rw [e1]
        refine h3.eqs ?_ ?_ ?_ ?_ ?_ ?_ ?_
        · exact pin_mid hj2 (by omega)
        · exact ping_mid hj2 (by omega)
        · exact pin_mid hj2 (by omega)
        · exact pin_mid hj2 (by omega)
        · rw [upd_ne (by omega)]; exact pin_mid hj2 (by omega)
        · rw [upd_ne (by omega)]; exact pin_mid hj2 (by omega)
        · exact pin_mid hj2 (by omega)
    · have hsl : (setNm nm (lift l v)).length = n := by rw [setNm_len, lift_len]; exact hv
      rw [List.getElem?_append_right (by omega)] at hq
      have hl := (List.getElem?_eq_some_iff.mp hq).1
      have h1 := h (j - n) q (by rw [List.getElem?_append_right (by omega), show j - n - X.length = j - X.length - (setNm nm (lift l v)).length by omega]; exact hq)
      have e1 : 224 + j = 224 + (i + n) + (j - i - n) := by omega
      have e2 : 224 + (j - n) = 224 + i + (j - i - n) := by omega
      rw [e2] at h1
      rw [e1]
      refine h1.eqs ?_ ?_ ?_ ?_ ?_ ?_ ?_
      · exact pin_hi (by omega)
      · exact ping_hi (by omega)
      · exact pin_hi (by omega)
      · exact pin_hi (by omega)
      · rw [upd_ne (by omega)]; exact pin_hi (by omega)
      · rw [upd_ne (by omega)]; exact pin_hi (by omega)
      · exact pin_hi (by omega)
/-- what a change of the work tree leaves as it was -/
def KW (sf kf vf af lf xf nf : Nat → Int32) (uf : Nat → Int64) (sf9 kf9 vf9 af9 lf9 xf9 nf9 : Nat → Int32) (uf9 : Nat → Int64) : Prop := (∀ j, ¬ j = 7 → ¬ j = 9 → sf9 j = sf j) ∧ ∀ j, (j < 224 ∨ (384 ≤ j ∧ j < 480)) → kf9 j = kf j ∧ vf9 j = vf j ∧ af9 j = af j ∧ lf9 j = lf j ∧ xf9 j = xf j ∧ nf9 j = nf j ∧ uf9 j = uf j
theorem KW.refl {sf kf vf af lf xf nf : Nat → Int32} {uf : Nat → Int64} : KW sf kf vf af lf xf nf uf sf kf vf af lf xf nf uf := ⟨fun _ _ _ => rfl, fun _ _ => ⟨rfl, rfl, rfl, rfl, rfl, rfl, rfl⟩⟩
theorem KW.trans {sf kf vf af lf xf nf : Nat → Int32} {uf : Nat → Int64} {sf9 kf9 vf9 af9 lf9 xf9 nf9 : Nat → Int32} {uf9 : Nat → Int64} {sf8 kf8 vf8 af8 lf8 xf8 nf8 : Nat → Int32} {uf8 : Nat → Int64} (h : KW sf kf vf af lf xf nf uf sf9 kf9 vf9 af9 lf9 xf9 nf9 uf9) (h2 : KW sf9 kf9 vf9 af9 lf9 xf9 nf9 uf9 sf8 kf8 vf8 af8 lf8 xf8 nf8 uf8) : KW sf kf vf af lf xf nf uf sf8 kf8 vf8 af8 lf8 xf8 nf8 uf8 := by
  refine ⟨fun j a b => (h2.1 j a b).trans (h.1 j a b), fun j hj => ?_⟩
  obtain ⟨a1, a2, a3, a4, a5, a6, a7⟩ := h.2 j hj
  obtain ⟨b1, b2, b3, b4, b5, b6, b7⟩ := h2.2 j hj
  exact ⟨b1.trans a1, b2.trans a2, b3.trans a3, b4.trans a4, b5.trans a5, b6.trans a6, b7.trans a7⟩
theorem KW.take {tr i n : Nat} {lv : Nat → Nat} {sf kf vf af lf xf nf : Nat → Int32} {uf : Nat → Int64} : KW sf kf vf af lf xf nf uf (upd sf 9 (nI n)) (va_cpy kf kf (bsK tr + i) 480 n) (cpg (fun z => z - nI (lv i)) vf (bsK tr + i) 480 n) (va_cpy af af (bsK tr + i) 480 n) (va_cpy lf lf (bsK tr + i) 480 n) (va_cpy xf xf (bsK tr + i) 480 n) (va_cpy nf nf (bsK tr + i) 480 n) (va_cpy uf uf (bsK tr + i) 480 n) := by
  refine ⟨fun j a b => upd_ne b, fun j hj => ⟨?_, ?_, ?_, ?_, ?_, ?_, ?_⟩⟩
  · exact cpy_out (by omega)
  · exact cpg_src (by omega)
  · exact cpy_out (by omega)
  · exact cpy_out (by omega)
  · exact cpy_out (by omega)
  · exact cpy_out (by omega)
  · exact cpy_out (by omega)
theorem KW.cut {i n N : Nat} {sf kf vf af lf xf nf : Nat → Int32} {uf : Nat → Int64} (hN : N ≤ 160) (hi : i ≤ N) : KW sf kf vf af lf xf nf uf (upd sf 7 (nI (N - n))) (va_cpy kf kf (224 + (i + n)) (224 + i) (N - (i + n))) (va_cpy vf vf (224 + (i + n)) (224 + i) (N - (i + n))) (va_cpy af af (224 + (i + n)) (224 + i) (N - (i + n))) (va_cpy lf lf (224 + (i + n)) (224 + i) (N - (i + n))) (va_cpy xf xf (224 + (i + n)) (224 + i) (N - (i + n))) (va_cpy nf nf (224 + (i + n)) (224 + i) (N - (i + n))) (va_cpy uf uf (224 + (i + n)) (224 + i) (N - (i + n))) := by
  refine ⟨fun j a b => upd_ne a, fun j hj => ⟨?_, ?_, ?_, ?_, ?_, ?_, ?_⟩⟩ <;> exact cpy_out (by omega)
theorem KW.putIn {i n N : Nat} {up i_heldAt i_heldLen : Int32} {sf kf vf af lf xf nf : Nat → Int32} {uf : Nat → Int64} (hN : N + n ≤ 160) (hn0 : 0 < n) (hi : i ≤ N) : KW sf kf vf af lf xf nf uf (upd sf 7 (nI (N + n))) (va_cpy (va_cpy kf kf (224 + i) (224 + (i + n)) (N - i)) (va_cpy kf kf (224 + i) (224 + (i + n)) (N - i)) 480 (224 + i) n) (cpg (fun z => z + up) (va_cpy vf vf (224 + i) (224 + (i + n)) (N - i)) 480 (224 + i) n) (va_cpy (va_cpy af af (224 + i) (224 + (i + n)) (N - i)) (va_cpy af af (224 + i) (224 + (i + n)) (N - i)) 480 (224 + i) n) (va_cpy (va_cpy lf lf (224 + i) (224 + (i + n)) (N - i)) (va_cpy lf lf (224 + i) (224 + (i + n)) (N - i)) 480 (224 + i) n) (upd (va_cpy (va_cpy xf xf (224 + i) (224 + (i + n)) (N - i)) (va_cpy xf xf (224 + i) (224 + (i + n)) (N - i)) 480 (224 + i) n) (224 + i) i_heldAt) (upd (va_cpy (va_cpy nf nf (224 + i) (224 + (i + n)) (N - i)) (va_cpy nf nf (224 + i) (224 + (i + n)) (N - i)) 480 (224 + i) n) (224 + i) i_heldLen) (va_cpy (va_cpy uf uf (224 + i) (224 + (i + n)) (N - i)) (va_cpy uf uf (224 + i) (224 + (i + n)) (N - i)) 480 (224 + i) n) := by
  refine ⟨fun j a b => upd_ne a, fun j hj => ⟨?_, ?_, ?_, ?_, ?_, ?_, ?_⟩⟩
  · rw [cpy_out (by omega), cpy_out (by omega)]
  · rw [cpg_src (by omega), cpy_out (by omega)]
  · rw [cpy_out (by omega), cpy_out (by omega)]
  · rw [cpy_out (by omega), cpy_out (by omega)]
  · rw [upd_ne (by omega), cpy_out (by omega), cpy_out (by omega)]
  · rw [upd_ne (by omega), cpy_out (by omega), cpy_out (by omega)]
  · rw [cpy_out (by omega), cpy_out (by omega)]
theorem TRE.kw {tr : Nat} {rows : List Row} {sf kf vf af lf xf nf : Nat → Int32} {uf : Nat → Int64} {pf : Nat → Int32} {pn : Nat} {sf9 kf9 vf9 af9 lf9 xf9 nf9 : Nat → Int32} {uf9 : Nat → Int64} {p9 : Nat → Int32} {pn9 : Nat} (h : TRE tr rows sf kf vf af lf xf nf uf pf pn) (ht : tr < 7) (hk : KW sf kf vf af lf xf nf uf sf9 kf9 vf9 af9 lf9 xf9 nf9 uf9) (hq : ∀ j, j < pn → p9 j = pf j) (hn : pn ≤ pn9) : TRE tr rows sf9 kf9 vf9 af9 lf9 xf9 nf9 uf9 p9 pn9 := by
  obtain ⟨h1, h2, h3⟩ := h
  refine ⟨by rw [hk.1 tr (by omega) (by omega)]; exact h1, h2, h3.same (fun i hi => hk.2 _ (Or.inl ?_)) hq hn⟩
  rw [bsK_small (by omega)]; omega
theorem TR.kwD {rows : List Row} {sf kf vf af lf xf nf : Nat → Int32} {uf : Nat → Int64} {pf : Nat → Int32} {pn : Nat} {sf9 kf9 vf9 af9 lf9 xf9 nf9 : Nat → Int32} {uf9 : Nat → Int64} {p9 : Nat → Int32} {pn9 : Nat} (h : TR 384 rows kf vf af lf xf nf uf pf pn) (hl : rows.length ≤ 96) (hk : KW sf kf vf af lf xf nf uf sf9 kf9 vf9 af9 lf9 xf9 nf9 uf9) (hq : ∀ j, j < pn → p9 j = pf j) (hn : pn ≤ pn9) : TR 384 rows kf9 vf9 af9 lf9 xf9 nf9 uf9 p9 pn9 :=
  h.same (fun i hi => hk.2 _ (Or.inr (by omega))) hq hn
/-! where things stand -/
theorem trp_trg : ∀ (ss : List (List Nat)) (w : List Row) (i : Nat), (trp ss w i).isSome = (trg ss w).isSome
  | [], _, _ => rfl
  | s :: ss, w, i => by
    rw [trp, trg]
    cases stp w s with
    | none => rfl
    | some t => exact trp_trg ss _ _
theorem trp_none {ss : List (List Nat)} {w : List Row} {i : Nat} (h : trg ss w = none) : trp ss w i = none := by
  have := trp_trg ss w i
  rw [h] at this
  cases h2 : trp ss w i with
  | none => rfl
  | some j => rw [h2] at this; cases this
theorem trg_of {ss : List (List Nat)} {w : List Row} {i j : Nat} (h : trp ss w i = some j) : ∃ c, trg ss w = some c := by
  have := trp_trg ss w i
  rw [h] at this
  cases h2 : trg ss w with
  | none => rw [h2] at this; cases this
  | some c => exact ⟨c, rfl⟩
theorem trg_last : ∀ (ss : List (List Nat)) (s : List Nat) (w : List Row), trg (ss ++ [s]) w = (trg ss w).bind (fun c => (stp c s).map (fun t => (ksR c).getD t []))
  | [], s, w => by
    rw [List.nil_append, trg, trg, Option.bind_some]
    cases stp w s <;> rfl
  | a :: ss, s, w => by
    rw [List.cons_append, trg, trg]
    cases stp w a with
    | none => rfl
    | some t => exact trg_last ss s _
theorem trp_last : ∀ (ss : List (List Nat)) (s : List Nat) (w c : List Row) (i j : Nat), trg ss w = some c → trp ss w i = some j → trp (ss ++ [s]) w i = (stp c s).map (fun t => j + 1 + slen ((ksR c).take t))
  | [], s, w, c, i, j, h, h2 => by
    cases h; cases h2
    rw [List.nil_append, trp]
    cases stp w s <;> rfl
  | a :: ss, s, w, c, i, j, h, h2 => by
    rw [List.cons_append, trp]
    rw [trg] at h
    rw [trp] at h2
    cases hs : stp w a with
    | none => rw [hs] at h; cases h
    | some t =>
      rw [hs, Option.bind_some] at h h2
      exact trp_last ss s _ c _ j h h2
theorem lift_add (a b : Nat) (r : List Row) : lift a (lift b r) = lift (a + b) r := by
  simp only [lift, List.map_map]
  apply List.map_congr_left
  intro q _
  simp only [Function.comp]
  rw [Nat.add_assoc, Nat.add_comm b a]
theorem nm_head {q : Row} {A B : List Row} (h : setNm [] (q :: A) = q :: A) : setNm [] (q :: B) = q :: B := by
  have h1 := (List.cons.inj h).1
  show (q.1, q.2.1, q.2.2.1, q.2.2.2.1, []) :: B = q :: B
  rw [h1]
theorem wr_succ {e : Nat} {c : List Row} (h : WR e c) : ∃ e1, e = e1 + 1 := by
  cases e with
  | zero => exact h.elim
  | succ e => exact ⟨e, rfl⟩
theorem ins_flat {ss : List (List Nat)} {d t : Nat} {w c : List Row} (hw : WR d w) (hg : trg ss w = some c) (ht : t ≤ (ksR c).length) : ∃ (i l e : Nat) (nm : List Nat) (X Y : List Row), trp ss w 0 = some i ∧ SUB w i l nm c ∧ WR (e + 1) c ∧ e + 1 + l ≤ d ∧ w = X ++ Y ∧ X.length = i + 1 + slen ((ksR c).take t) ∧ ∀ s v, setNm [] v = v → rpt ss w (spc c t 0 [(s, v)]) = X ++ (setNm (if hdK c = 6 then 0 :: s else []) (lift (l + 1) v) ++ Y) := by
  obtain ⟨e, l, nm, pre, post, h1, h2, h3, h4, h5, h6, h7, h8⟩ := rpt_flat ss d w c hw hg
  obtain ⟨e1, rfl⟩ := wr_succ h1
  obtain ⟨q, A, B, k1, k2, k3, k4⟩ := wr_insert h1 ht
  have hnm : setNm [] (q :: (A ++ B)) = q :: (A ++ B) := by rw [← k1]; exact wr_setNm h1
  refine ⟨pre.length, l, e1, nm, pre ++ setNm nm (lift l (q :: A)), lift l B ++ post, by rw [h5, Nat.zero_add], ⟨pre, post, h3, rfl, h4⟩, h1, by omega, ?_, ?_, ?_⟩
  · rw [h3, k1, show q :: (A ++ B) = (q :: A) ++ B from rfl, lift_app, setNm_app (by simp [lift])]
    simp only [List.append_assoc]
  · rw [List.length_append, setNm_len, lift_len, List.length_cons, k2]; omega
  · intro s v hv
    rw [k4 s v hv, h6 _ (nm_head hnm) (by simp)]
    generalize (if hdK c = 6 then 0 :: s else []) = n2
    rw [show q :: (A ++ (setNm n2 (lift 1 v) ++ B)) = (q :: A) ++ (setNm n2 (lift 1 v) ++ B) from rfl, lift_app, setNm_app (by simp [lift]), lift_app, lift_setNm, lift_add]
    simp only [List.append_assoc]
theorem cut_flat {ss : List (List Nat)} {d t : Nat} {w c : List Row} (hw : WR d w) (hg : trg ss w = some c) (ht : t < (ksR c).length) : ∃ (i l e : Nat) (nm : List Nat) (X Y : List Row), trp ss w 0 = some i ∧ SUB w i l nm c ∧ WR (e + 1) c ∧ e + 1 + l ≤ d ∧ w = X ++ (setNm (if hdK c = 6 then 0 :: (ksN c).getD t [] else []) (lift (l + 1) ((ksR c).getD t [])) ++ Y) ∧ X.length = i + 1 + slen ((ksR c).take t) ∧ rpt ss w (spc c t 1 []) = X ++ Y ∧ ∀ v, setNm [] v = v → rpt ss w (spc c t 1 [((ksN c).getD t [], v)]) = X ++ (setNm (if hdK c = 6 then 0 :: (ksN c).getD t [] else []) (lift (l + 1) v) ++ Y) := by
  obtain ⟨e, l, nm, pre, post, h1, h2, h3, h4, h5, h6, h7, h8⟩ := rpt_flat ss d w c hw hg
  obtain ⟨e1, rfl⟩ := wr_succ h1
  obtain ⟨q, A, B, k1, k2, k3, k4, k5, k6⟩ := wr_around h1 ht
  obtain ⟨q', A', B', j1, j2, j3⟩ := wr_cut h1 ht
  have hnm := wr_setNm h1
  generalize (if hdK c = 6 then 0 :: (ksN c).getD t [] else []) = n2 at *
  obtain ⟨rfl, hr⟩ := List.cons.inj (k1.symm.trans j1)
  obtain ⟨rfl, hr2⟩ := List.append_inj hr (by omega)
  obtain rfl := List.append_cancel_left hr2
  have hnm2 : setNm [] (q :: (A ++ (setNm n2 (lift 1 ((ksR c).getD t [])) ++ B))) = q :: (A ++ (setNm n2 (lift 1 ((ksR c).getD t [])) ++ B)) := by rw [← k1]; exact hnm
  have key : ∀ v, setNm nm (lift l (q :: (A ++ (setNm n2 (lift 1 v) ++ B)))) = setNm nm (lift l (q :: A)) ++ (setNm n2 (lift (l + 1) v) ++ lift l B) := fun v => by
    rw [show q :: (A ++ (setNm n2 (lift 1 v) ++ B)) = (q :: A) ++ (setNm n2 (lift 1 v) ++ B) from rfl, lift_app, setNm_app (by simp [lift]), lift_app, lift_setNm, lift_add]
  refine ⟨pre.length, l, e1, nm, pre ++ setNm nm (lift l (q :: A)), lift l B ++ post, by rw [h5, Nat.zero_add], ⟨pre, post, h3, rfl, h4⟩, h1, by omega, ?_, ?_, ?_, ?_⟩
  · rw [← List.append_assoc _ (lift l B) post, List.append_assoc pre, ← List.append_assoc (setNm nm (lift l (q :: A))), ← key, ← k1]
    exact h3
  · rw [List.length_append, setNm_len, lift_len, List.length_cons, k2]; omega
  · rw [j3, h6 _ (nm_head hnm2) (by simp), show q :: (A ++ B) = (q :: A) ++ B from rfl, lift_app, setNm_app (by simp [lift])]
    simp only [List.append_assoc]
  · intro v hv
    rw [k6 v hv, h6 _ (nm_head hnm2) (by simp), key]
    simp only [List.append_assoc]
theorem edt_none {kd : Nat} {v : List Row} {ss : List (List Nat)} {w : List Row} (hk : ¬ kd = 1) (h : trg ss w = none) : edt kd v ss w = none := by
  rcases List.eq_nil_or_concat ss with rfl | ⟨ss1, s, rfl⟩
  · cases h
  · rw [List.concat_eq_append] at h ⊢
    rw [trg_last] at h
    rw [edt_last]
    cases hc : trg ss1 w with
    | none => rfl
    | some c =>
      rw [hc, Option.bind_some] at h
      rw [Option.bind_some]
      unfold ed1
      rw [if_neg hk]
      cases hs : stp c s with
      | none => rfl
      | some t => rw [hs] at h; cases h
/-- removing and replacing, on flat rows -/
theorem edt_flat {ss : List (List Nat)} {d : Nat} {w r : List Row} (hw : WR d w) (hg : trg ss w = some r) : ∃ (i l e : Nat) (nm : List Nat) (X Y : List Row), trp ss w 0 = some i ∧ SUB w i l nm r ∧ WR e r ∧ e + l ≤ d ∧ w = X ++ (setNm nm (lift l r) ++ Y) ∧ X.length = i ∧ (¬ ss = [] → ¬ i = 0 ∧ ∀ v, edt 2 v ss w = some (X ++ Y)) ∧ (∀ v, setNm [] v = v → v ≠ [] → edt 3 v ss w = some (X ++ (setNm nm (lift l v) ++ Y))) ∧ (ss = [] → i = 0 ∧ l = 0 ∧ nm = [] ∧ X = [] ∧ Y = []) := by
  rcases List.eq_nil_or_concat ss with rfl | ⟨ss1, s, rfl⟩
  · cases hg
    refine ⟨0, 0, d, [], [], [], rfl, SUB.root hw, hw, Nat.le_refl _, by rw [lift_zero, wr_setNm hw]; simp, rfl, fun h => absurd rfl h, fun v hv hne => ?_, fun _ => ⟨rfl, rfl, rfl, rfl, rfl⟩⟩
    rw [edt, if_neg (by decide), lift_zero, hv]; simp
  · rw [List.concat_eq_append] at hg ⊢
    have hg0 := hg
    rw [trg_last] at hg
    cases hc : trg ss1 w with
    | none => rw [hc] at hg; cases hg
    | some c =>
      rw [hc, Option.bind_some] at hg
      obtain ⟨t, ht, hr⟩ := Option.map_eq_some_iff.mp hg
      obtain ⟨i, l, e, nm, X, Y, g1, g2, g3, g4, g5, g6, g7, g8⟩ := cut_flat hw hc (stp_lt ht).1
      have htp := trp_last ss1 s w c 0 i hc g1
      rw [ht, Option.map_some] at htp
      obtain ⟨e', l', nm', pre, post, h1, h2, h3, h4, h5, h6, h7, h8⟩ := rpt_flat _ d w r hw hg0
      have hlen : X.length = pre.length := by
        have := htp.symm.trans (h5 0)
        have := Option.some.inj this
        omega
      rw [hr] at g5
      generalize hn2 : (if hdK c = 6 then 0 :: (ksN c).getD t [] else []) = n2 at *
      have hdec : X ++ (setNm n2 (lift (l + 1) r) ++ Y) = pre ++ (setNm nm' (lift l' r) ++ post) := g5.symm.trans h3
      obtain ⟨hXp, hrest⟩ := List.append_inj hdec hlen
      obtain ⟨hmid, hpost⟩ := List.append_inj hrest (by rw [setNm_len, setNm_len, lift_len, lift_len])
      have hll : l + 1 = l' ∧ n2 = nm' := by
        cases r with
        | nil => exact absurd rfl (wr_ne h1)
        | cons a r =>
          have := (List.cons.inj hmid).1
          simp only [Prod.mk.injEq] at this
          exact ⟨by omega, this.2.2.2.2⟩
      obtain ⟨rfl, rfl⟩ := hll
      refine ⟨X.length, l + 1, e', n2, X, Y, by rw [htp, g6], ⟨pre, post, h3, hlen.symm, h4⟩, h1, h2, g5, rfl, fun _ => ⟨by omega, fun v => ?_⟩, fun v hv hne => ?_, fun h => by simp at h⟩
      · rw [edt_last, hc, Option.bind_some, ed1, if_neg (by decide), ht, Option.map_some, Option.map_some, if_pos rfl, g7]
      · rw [edt_last, hc, Option.bind_some, ed1, if_neg (by decide), ht, Option.map_some, Option.map_some, if_neg (by decide), g8 v hv]
/-- the last slash of a pointer -/
theorem ptr_last : ∀ (n : Nat) (A s : List Nat) (qs : List (List Nat)), A.length ≤ n → (∀ c ∈ s, ¬ c = 47) → ptr (A ++ 47 :: s) = some qs → ∃ ss q, qs = ss ++ [q] ∧ ptr A = some ss ∧ dcd s = some q
  | n, [], s, qs, _, hs, h => by
    have h1 := ptr_step hs (R := []) (Or.inl rfl)
    rw [List.append_nil] at h1
    rw [List.nil_append, h1] at h
    cases hd : dcd s with
    | none => rw [hd] at h; cases h
    | some q => rw [hd] at h; cases h; exact ⟨[], q, rfl, rfl, rfl⟩
  | 0, _ :: _, _, _, hn, _, _ => by simp at hn
  | n + 1, a :: A, s, qs, hn, hs, h => by
    simp only [List.length_cons] at hn
    have ha : a = 47 := by
      rw [List.cons_append] at h
      by_cases ha : a = 47
      · exact ha
      · have h' : (if a = 47 then dcs (spl (A ++ 47 :: s)) else none) = some qs := h
        rw [if_neg ha] at h'; cases h'
    subst ha
    have e : A = A.takeWhile (fun c => decide (c ≠ 47)) ++ A.dropWhile (fun c => decide (c ≠ 47)) := List.takeWhile_append_dropWhile.symm
    have h47 : ∀ c ∈ A.takeWhile (fun c => decide (c ≠ 47)), ¬ c = 47 := fun c hc => by
      have := List.all_eq_true.mp (List.all_takeWhile (p := fun c => decide (c ≠ 47)) (l := A)) c hc
      simpa using this
    have hR : A.dropWhile (fun c => decide (c ≠ 47)) = [] ∨ hd0 (A.dropWhile (fun c => decide (c ≠ 47))) = 47 := by
      cases hd : A.dropWhile (fun c => decide (c ≠ 47)) with
      | nil => exact Or.inl rfl
      | cons x xs =>
        have h2 := List.head_dropWhile_not (fun c => decide (c ≠ 47)) (l := A) (by rw [hd]; simp)
        simp only [hd, List.head_cons] at h2
        exact Or.inr (by simpa [hd0] using h2)
    have hlen : (A.dropWhile (fun c => decide (c ≠ 47))).length ≤ A.length := by
      have := congrArg List.length e
      rw [List.length_append] at this
      omega
    generalize A.takeWhile (fun c => decide (c ≠ 47)) = s1 at e h47
    generalize A.dropWhile (fun c => decide (c ≠ 47)) = R1 at e hR hlen
    have hR2 : R1 ++ 47 :: s = [] ∨ hd0 (R1 ++ 47 :: s) = 47 := by
      rcases hR with rfl | hR
      · exact Or.inr rfl
      · cases R1 with
        | nil => exact Or.inr rfl
        | cons x R1 => exact Or.inr hR
    rw [e] at h ⊢
    rw [List.cons_append, List.append_assoc, ptr_step h47 hR2] at h
    rw [ptr_step h47 hR]
    cases h1 : dcd s1 with
    | none => rw [h1] at h; cases h
    | some q1 =>
      cases h2 : ptr (R1 ++ 47 :: s) with
      | none => rw [h1, h2] at h; cases h
      | some qs1 =>
        rw [h1, h2] at h
        cases h
        obtain ⟨ss, q, rfl, h3, h4⟩ := ptr_last n R1 s qs1 (by omega) hs h2
        exact ⟨q1 :: ss, q, rfl, by rw [h3], h4⟩
