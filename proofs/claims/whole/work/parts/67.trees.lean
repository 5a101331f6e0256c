/-! the model's trees -/
def kdR (rows : List Row) (j : Nat) : Nat := match rows[j]? with
  | some q => q.1
  | none => 0
theorem kdR_of {rows : List Row} {j : Nat} {q : Row} (h : rows[j]? = some q) : kdR rows j = q.1 := by
  unfold kdR; rw [h]
theorem dpA_dpt (rows : List Row) : ∀ n, n ≤ rows.length → dpA (lvR rows) (kdR rows) n = dpt (rows.take n)
  | 0, _ => by simp [dpA, dpt]
  | n + 1, h => by
    have hn : n < rows.length := by omega
    rw [dpA, dpA_dpt rows n (by omega), List.take_succ_eq_append_getElem hn, dpt_app, lvR_of (List.getElem?_eq_getElem hn), kdR_of (List.getElem?_eq_getElem hn)]
    congr 1
    simp [dpt]
theorem TR.same {bs : Nat} {rows : List Row} {kf vf af lf xf nf kf9 vf9 af9 lf9 xf9 nf9 : Nat → Int32} {uf uf9 : Nat → Int64} {pf p9 : Nat → Int32} {pn pn9 : Nat} (h : TR bs rows kf vf af lf xf nf uf pf pn) (hs : ∀ i, i < rows.length → kf9 (bs + i) = kf (bs + i) ∧ vf9 (bs + i) = vf (bs + i) ∧ af9 (bs + i) = af (bs + i) ∧ lf9 (bs + i) = lf (bs + i) ∧ xf9 (bs + i) = xf (bs + i) ∧ nf9 (bs + i) = nf (bs + i) ∧ uf9 (bs + i) = uf (bs + i)) (hq : ∀ j, j < pn → p9 j = pf j) (hn : pn ≤ pn9) : TR bs rows kf9 vf9 af9 lf9 xf9 nf9 uf9 p9 pn9 := by
  intro i q hi
  obtain ⟨h1, h2, h3, h4, h5, h6, h7⟩ := hs i (List.getElem?_eq_some_iff.mp hi).1
  rw [h1, h2, h3, h4, h5, h6, h7]
  exact (h i q hi).kept hq hn
/-- the tree tr holds these rows -/
def TRE (tr : Nat) (rows : List Row) (sf kf vf af lf xf nf : Nat → Int32) (uf : Nat → Int64) (pf : Nat → Int32) (pn : Nat) : Prop := sf tr = nI rows.length ∧ rows.length ≤ 32 ∧ TR (bsK tr) rows kf vf af lf xf nf uf pf pn
theorem bsK_small {tr : Nat} (h : tr < 8) : bsK tr = 32 * tr := if_pos (by omega)
theorem TRE.kpt {tr : Nat} {rows : List Row} {sf kf vf af lf xf nf sf9 kf9 vf9 af9 lf9 xf9 nf9 : Nat → Int32} {uf uf9 : Nat → Int64} {pf p9 : Nat → Int32} {pn pn9 : Nat} (h : TRE tr rows sf kf vf af lf xf nf uf pf pn) (ht : tr < 8) (hk : KPT sf kf vf af lf xf nf uf sf9 kf9 vf9 af9 lf9 xf9 nf9 uf9) (hq : ∀ j, j < pn → p9 j = pf j) (hn : pn ≤ pn9) : TRE tr rows sf9 kf9 vf9 af9 lf9 xf9 nf9 uf9 p9 pn9 := by
  obtain ⟨h1, h2, h3⟩ := h
  have hb := bsK_small ht
  exact ⟨by rw [hk.1 tr (by omega)]; exact h1, h2, h3.same (fun i hi => hk.2 _ (by omega)) hq hn⟩
theorem cpy_in {α : Type} {f : Nat → α} {s d n i : Nat} (h : i < n) : va_cpy f f s d n (d + i) = f (s + i) := by
  unfold va_cpy
  rw [if_pos (by omega), show s + (d + i - d) = s + i by omega]
theorem cpy_out {α : Type} {f : Nat → α} {s d n j : Nat} (h : j < d ∨ d + n ≤ j) : va_cpy f f s d n j = f j := by
  unfold va_cpy
  rw [if_neg (by omega)]
/-- a tree is copied: the copy -/
theorem TR.copy {s d n : Nat} {rows : List Row} {kf vf af lf xf nf : Nat → Int32} {uf : Nat → Int64} {pf : Nat → Int32} {pn : Nat} (h : TR s rows kf vf af lf xf nf uf pf pn) (hl : rows.length ≤ n) : TR d rows (va_cpy kf kf s d n) (va_cpy vf vf s d n) (va_cpy af af s d n) (va_cpy lf lf s d n) (va_cpy xf xf s d n) (va_cpy nf nf s d n) (va_cpy uf uf s d n) pf pn := by
  intro i q hi
  have hlt := (List.getElem?_eq_some_iff.mp hi).1
  rw [cpy_in (by omega), cpy_in (by omega), cpy_in (by omega), cpy_in (by omega), cpy_in (by omega), cpy_in (by omega), cpy_in (by omega)]
  exact h i q hi
/-- and the others -/
theorem TR.other {s d n bs : Nat} {rows : List Row} {kf vf af lf xf nf : Nat → Int32} {uf : Nat → Int64} {pf : Nat → Int32} {pn : Nat} (h : TR bs rows kf vf af lf xf nf uf pf pn) (hl : bs + rows.length ≤ d ∨ d + n ≤ bs) : TR bs rows (va_cpy kf kf s d n) (va_cpy vf vf s d n) (va_cpy af af s d n) (va_cpy lf lf s d n) (va_cpy xf xf s d n) (va_cpy nf nf s d n) (va_cpy uf uf s d n) pf pn := by
  intro i q hi
  have hlt := (List.getElem?_eq_some_iff.mp hi).1
  rw [cpy_out (by omega), cpy_out (by omega), cpy_out (by omega), cpy_out (by omega), cpy_out (by omega), cpy_out (by omega), cpy_out (by omega)]
  exact h i q hi
theorem TRE.copy {t1 t2 : Nat} {rows : List Row} {sf kf vf af lf xf nf : Nat → Int32} {uf : Nat → Int64} {pf : Nat → Int32} {pn n : Nat} (h : TR (bsK t1) rows kf vf af lf xf nf uf pf pn) (hl : rows.length = n) (hn : n ≤ 32) : TRE t2 rows (upd sf t2 (nI n)) (va_cpy kf kf (bsK t1) (bsK t2) n) (va_cpy vf vf (bsK t1) (bsK t2) n) (va_cpy af af (bsK t1) (bsK t2) n) (va_cpy lf lf (bsK t1) (bsK t2) n) (va_cpy xf xf (bsK t1) (bsK t2) n) (va_cpy nf nf (bsK t1) (bsK t2) n) (va_cpy uf uf (bsK t1) (bsK t2) n) pf pn :=
  ⟨by simp [upd, hl], by omega, h.copy (by omega)⟩
theorem TRE.other {t1 t2 tr : Nat} {rows : List Row} {sf kf vf af lf xf nf : Nat → Int32} {uf : Nat → Int64} {pf : Nat → Int32} {pn n : Nat} (h : TRE tr rows sf kf vf af lf xf nf uf pf pn) (ht : tr < 8) (h2 : t2 < 8) (hne : ¬ tr = t2) (hn : n ≤ 32) : TRE tr rows (upd sf t2 (nI n)) (va_cpy kf kf (bsK t1) (bsK t2) n) (va_cpy vf vf (bsK t1) (bsK t2) n) (va_cpy af af (bsK t1) (bsK t2) n) (va_cpy lf lf (bsK t1) (bsK t2) n) (va_cpy xf xf (bsK t1) (bsK t2) n) (va_cpy nf nf (bsK t1) (bsK t2) n) (va_cpy uf uf (bsK t1) (bsK t2) n) pf pn := by
  obtain ⟨e1, e2, e3⟩ := h
  have hb1 := bsK_small ht
  have hb2 := bsK_small h2
  exact ⟨by simp only [upd, if_neg hne]; exact e1, e2, e3.other (by omega)⟩
