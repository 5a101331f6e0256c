/-! the model's arrays while the draft is read -/
def OPN (of : Nat → Int32) : List Frm → Prop
  | [] => True
  | _ :: st => of st.length = nI (384 + (flt st).length) ∧ OPN of st
theorem OPN.kept {of o2 : Nat → Int32} : ∀ {st : List Frm}, OPN of st → (∀ j, j < st.length → o2 j = of j) → OPN o2 st
  | [], _, _ => trivial
  | _ :: st, ⟨h1, h2⟩, hq => ⟨by rw [hq st.length (by simp)]; exact h1, h2.kept (fun j hj => hq j (by simp only [List.length_cons]; omega))⟩
theorem OPN.psh {of : Nat → Int32} {st : List Frm} {x : List Nat} {r : List Row} (h : OPN of st) : OPN of (psh st x r) := by
  cases st with
  | nil => trivial
  | cons F st => exact h
theorem OPN.push {of : Nat → Int32} {st : List Frm} (h : OPN of st) (F : Frm) : OPN (upd of st.length (nI (384 + (flt st).length))) (F :: st) :=
  ⟨by simp [upd], h.kept (fun j hj => by simp only [upd]; rw [if_neg (by omega)])⟩
/-- the name that is held -/
def HLD (nm : List Nat) (hA hL : Int32) (pf : Nat → Int32) (pn : Nat) : Prop := (nm = [] → hL = -1) ∧ ∀ c t, nm = c :: t → ∃ p, hA = nI p ∧ hL = nI t.length ∧ TXP pf pn p t
theorem HLD.none {hA : Int32} {pf : Nat → Int32} {pn : Nat} : HLD [] hA (-1) pf pn := ⟨fun _ => rfl, fun c t e => by cases e⟩
theorem HLD.kept {nm : List Nat} {hA hL : Int32} {pf p9 : Nat → Int32} {pn pn9 : Nat} (h : HLD nm hA hL pf pn) (hq : ∀ j, j < pn → p9 j = pf j) (hn : pn ≤ pn9) : HLD nm hA hL p9 pn9 := ⟨h.1, fun c t e => by
  obtain ⟨p, h1, h2, h3⟩ := h.2 c t e
  exact ⟨p, h1, h2, h3.kept hq hn⟩⟩
theorem HLD.some {nm : List Nat} {pf : Nat → Int32} {pn p : Nat} {t : List Nat} (hn : nm = 0 :: t) (h : TXP pf pn p t) : HLD nm (nI p) (nI t.length) pf pn := ⟨fun e => (by rw [hn] at e; cases e), fun c t2 e => (by rw [hn] at e; cases e; exact ⟨p, rfl, rfl, h⟩)⟩
/-- only rows of the draft's tree were written -/
def KPT (sf kf vf af lf xf nf : Nat → Int32) (uf : Nat → Int64) (sf9 kf9 vf9 af9 lf9 xf9 nf9 : Nat → Int32) (uf9 : Nat → Int64) : Prop := (∀ i, ¬ i = 8 → sf9 i = sf i) ∧ ∀ j, j < 384 ∨ 480 ≤ j → kf9 j = kf j ∧ vf9 j = vf j ∧ af9 j = af j ∧ lf9 j = lf j ∧ xf9 j = xf j ∧ nf9 j = nf j ∧ uf9 j = uf j
theorem KPT.refl {sf kf vf af lf xf nf : Nat → Int32} {uf : Nat → Int64} : KPT sf kf vf af lf xf nf uf sf kf vf af lf xf nf uf := ⟨fun _ _ => rfl, fun _ _ => ⟨rfl, rfl, rfl, rfl, rfl, rfl, rfl⟩⟩
theorem KPT.trans {sf kf vf af lf xf nf sf1 kf1 vf1 af1 lf1 xf1 nf1 sf2 kf2 vf2 af2 lf2 xf2 nf2 : Nat → Int32} {uf uf1 uf2 : Nat → Int64} (h1 : KPT sf kf vf af lf xf nf uf sf1 kf1 vf1 af1 lf1 xf1 nf1 uf1) (h2 : KPT sf1 kf1 vf1 af1 lf1 xf1 nf1 uf1 sf2 kf2 vf2 af2 lf2 xf2 nf2 uf2) : KPT sf kf vf af lf xf nf uf sf2 kf2 vf2 af2 lf2 xf2 nf2 uf2 := by
  refine ⟨fun i hi => (h2.1 i hi).trans (h1.1 i hi), fun j hj => ?_⟩
  obtain ⟨a1, a2, a3, a4, a5, a6, a7⟩ := h1.2 j hj
  obtain ⟨b1, b2, b3, b4, b5, b6, b7⟩ := h2.2 j hj
  exact ⟨b1.trans a1, b2.trans a2, b3.trans a3, b4.trans a4, b5.trans a5, b6.trans a6, b7.trans a7⟩
theorem KPT.row {sf kf vf af lf xf nf : Nat → Int32} {uf : Nat → Int64} {n : Nat} {s k v ta tl xa xl : Int32} {u : Int64} (hn : n < 96) : KPT sf kf vf af lf xf nf uf (upd sf 8 s) (upd kf (384 + n) k) (upd vf (384 + n) v) (upd af (384 + n) ta) (upd lf (384 + n) tl) (upd xf (384 + n) xa) (upd nf (384 + n) xl) (vp_updL uf (384 + n) u) := by
  refine ⟨fun i hi => by simp only [upd, if_neg hi], fun j hj => ?_⟩
  have hne : ¬ j = 384 + n := by omega
  simp only [upd, vp_updL, if_neg hne]
  exact ⟨trivial, trivial, trivial, trivial, trivial, trivial, trivial⟩
theorem KPT.siz {sf kf vf af lf xf nf : Nat → Int32} {uf : Nat → Int64} {x : Int32} : KPT sf kf vf af lf xf nf uf (upd sf 8 x) kf vf af lf xf nf uf := ⟨fun i hi => by simp only [upd, if_neg hi], fun _ _ => ⟨rfl, rfl, rfl, rfl, rfl, rfl, rfl⟩⟩
theorem TR.kept {bs : Nat} {rows : List Row} {kf vf af lf xf nf : Nat → Int32} {uf : Nat → Int64} {pf p9 : Nat → Int32} {pn pn9 : Nat} (h : TR bs rows kf vf af lf xf nf uf pf pn) (hq : ∀ j, j < pn → p9 j = pf j) (hn : pn ≤ pn9) : TR bs rows kf vf af lf xf nf uf p9 pn9 := fun i q hi => (h i q hi).kept hq hn
theorem TR.nil {bs : Nat} {kf vf af lf xf nf : Nat → Int32} {uf : Nat → Int64} {pf : Nat → Int32} {pn : Nat} : TR bs [] kf vf af lf xf nf uf pf pn := fun i q h => by simp at h
theorem TR.app {bs : Nat} {rows : List Row} {kf vf af lf xf nf : Nat → Int32} {uf : Nat → Int64} {pf p9 : Nat → Int32} {pn pn9 n : Nat} {q : Row} {k v ta tl xa xl : Int32} {u : Int64} (h : TR bs rows kf vf af lf xf nf uf pf pn) (hl : n = rows.length) (hq : ∀ j, j < pn → p9 j = pf j) (hn : pn ≤ pn9) (hr : TRow q k v ta tl xa xl u p9 pn9) : TR bs (rows ++ [q]) (upd kf (bs + n) k) (upd vf (bs + n) v) (upd af (bs + n) ta) (upd lf (bs + n) tl) (upd xf (bs + n) xa) (upd nf (bs + n) xl) (vp_updL uf (bs + n) u) p9 pn9 := by
  intro i q2 hi
  by_cases hin : i = n
  · subst hin
    subst hl
    rw [List.getElem?_append_right (Nat.le_refl _), Nat.sub_self] at hi
    cases hi
    simp only [upd, vp_updL, if_true]
    exact hr
  · have hlt : i < rows.length := by
      have := (List.getElem?_eq_some_iff.mp hi).1
      simp only [List.length_append, List.length_singleton] at this
      omega
    rw [List.getElem?_append_left hlt] at hi
    have hne : ¬ bs + i = bs + n := by omega
    simp only [upd, vp_updL, if_neg hne]
    exact (h i q2 hi).kept hq hn
theorem TR.lv {bs : Nat} {rows : List Row} {kf vf af lf xf nf : Nat → Int32} {uf : Nat → Int64} {pf : Nat → Int32} {pn j : Nat} (h : TR bs rows kf vf af lf xf nf uf pf pn) (hj : j < rows.length) : vf (bs + j) = nI (lvR rows j) := by
  have := h j _ (List.getElem?_eq_getElem hj)
  rw [lvR_of (List.getElem?_eq_getElem hj)]
  exact this.2.2.1
/-- the whole of it -/
def RPz (st : List Frm) (nm : List Nat) (rows : List Row) (sf kf vf af lf xf nf : Nat → Int32) (uf : Nat → Int64) (of pf : Nat → Int32) (pn : Nat) (hA hL : Int32) : Prop := sf 8 = nI rows.length ∧ TR 384 rows kf vf af lf xf nf uf pf pn ∧ OPN of st ∧ HLD nm hA hL pf pn
/-- a row that holds a scalar or an open bracket -/
theorem TRow.new {k v : Nat} {z : Int} {tx nm : List Nat} {ta tl hA hL : Int32} {u : Int64} {pf : Nat → Int32} {pn : Nat} (hk : k ≤ 6) (hz : -2 ^ 63 ≤ z ∧ z < 2 ^ 63) (hu : u = lI z) (h4 : k = 4 → ∃ p, ta = nI p ∧ tl = nI tx.length ∧ TXP pf pn p tx) (h5 : ¬ k = 4 → tl = 0 ∧ tx = []) (hh : HLD nm hA hL pf pn) : TRow (k, v, z, tx, nm) (nI k) (nI v) ta tl hA hL u pf pn := ⟨hk, rfl, rfl, hu, hz, h4, h5, hh.1, hh.2⟩
theorem wr_scal {k : Nat} {z : Int} {tx : List Nat} (hk : k ≤ 4) : WR 1 [(k, 0, z, tx, [])] := ⟨k, z, tx, [], [], rfl, rfl, fun _ => rfl, by omega, fun r hr => by cases hr⟩
theorem wr_brk {k : Nat} (hk : k = 5 ∨ k = 6) : WR 1 [(k, 0, 0, [], [])] := ⟨k, 0, [], [], [], rfl, rfl, fun _ => rfl, by omega, fun r hr => by cases hr⟩
theorem lvl_lt {most mm : Nat} : ∀ {st : List Frm}, WST most mm st → ∀ q ∈ flt st, q.2.1 ≤ 2 * most
  | [], _, q, h => by cases h
  | F :: st, hw, q, h => by
    rw [flt, List.mem_append] at h
    rcases h with h | h
    · exact lvl_lt hw.2.2.2.2.2 q h
    · have := hw.2.1
      rcases List.mem_cons.mp h with rfl | h
      · show st.length ≤ _
        omega
      · obtain ⟨q0, h0, rfl⟩ := List.mem_map.mp h
        have hq := wr_lv hw.wr q0 (List.mem_cons_of_mem _ h0)
        show q0.2.1 + st.length ≤ _
        omega
/-- an object among the rows of a tree, for the search of a member -/
theorem slen_take {rs : List (List Row)} {t : Nat} (h : t < rs.length) : slen (rs.take (t + 1)) = slen (rs.take t) + (rs.getD t []).length := by
  rw [take_step [] h, slen_app]
theorem slen_all {rs : List (List Row)} {t : Nat} (h : slen (rs.take t) < slen rs) : t < rs.length := by
  refine Nat.not_le.mp (fun h2 => ?_)
  rw [List.take_of_length_le h2] at h
  exact Nat.lt_irrefl _ h
theorem SUB.end_ {d k : Nat} {rows : List Row} {i l : Nat} {num : Int} {rt nm : List Nat} {ns : List (List Nat)} {rs : List (List Row)} (h : SUB rows i l nm ((k, 0, num, rt, []) :: kidRows k ns rs)) (hw : WR d ((k, 0, num, rt, []) :: kidRows k ns rs)) (hl : ns.length = rs.length) : bhd (lvR rows) rows.length (lvR rows i) (i + 1) = i + 1 + slen rs := by
  rw [h.behind hw, List.length_cons, len_kids k ns rs hl]; omega
theorem KID.end_ {d k : Nat} {rows : List Row} {p l t : Nat} {ns : List (List Nat)} {rs : List (List Row)} (h : KID d k rows p l ns rs) (ht : t < rs.length) : p + slen (rs.take t) < rows.length ∧ bhd (lvR rows) rows.length (lvR rows (p + slen (rs.take t))) (p + slen (rs.take t) + 1) = p + slen (rs.take (t + 1)) := by
  have h1 := h.at ht
  have hw : WR d (rs.getD t []) := by
    rw [List.getD_eq_getElem?_getD, List.getElem?_eq_getElem ht]
    exact h.2.1 _ (List.getElem_mem ht)
  have h2 := h1.le
  have hpos : 0 < (rs.getD t []).length := by
    cases d with
    | zero => exact hw.elim
    | succ d => obtain ⟨k, num, rt, ns', rs', e, _⟩ := hw; rw [e]; simp
  exact ⟨by omega, by rw [h1.behind hw, slen_take ht]; omega⟩
/-- the places of the parts -/
def mbK (rs : List (List Row)) (p : Nat) (j : Nat) : Prop := ∃ t, t < rs.length ∧ j = p + slen (rs.take t)
theorem KID.first {d k : Nat} {rows : List Row} {p l e : Nat} {ns : List (List Nat)} {rs : List (List Row)} (_h : KID d k rows p l ns rs) (he : e = p + slen rs) (hp : p < e) : mbK rs p p := ⟨0, slen_all (by simp [slen] at *; omega), by simp [slen]⟩
theorem KID.next {d k : Nat} {rows : List Row} {p l e j : Nat} {ns : List (List Nat)} {rs : List (List Row)} (h : KID d k rows p l ns rs) (he : e = p + slen rs) (hj : mbK rs p j) (hb : bhd (lvR rows) rows.length (lvR rows j) (j + 1) < e) : mbK rs p (bhd (lvR rows) rows.length (lvR rows j) (j + 1)) := by
  obtain ⟨t, ht, rfl⟩ := hj
  have h1 := (h.end_ ht).2
  rw [h1] at hb ⊢
  exact ⟨t + 1, slen_all (by omega), rfl⟩
theorem KID.names {d bs : Nat} {rows : List Row} {p l j : Nat} {ns : List (List Nat)} {rs : List (List Row)} {kf vf af lf xf nf : Nat → Int32} {uf : Nat → Int64} {pf : Nat → Int32} {pn : Nat} (h : KID d 6 rows p l ns rs) (hT : TR bs rows kf vf af lf xf nf uf pf pn) (hj : mbK rs p j) : j < rows.length ∧ ∃ q, xf (bs + j) = nI q ∧ nf (bs + j) = nI ((nmR rows j).drop 1).length ∧ TXP pf pn q ((nmR rows j).drop 1) := by
  obtain ⟨t, ht, rfl⟩ := hj
  have h1 := h.at ht
  have hw : WR d (rs.getD t []) := by
    rw [List.getD_eq_getElem?_getD, List.getElem?_eq_getElem ht]
    exact h.2.1 _ (List.getElem_mem ht)
  refine ⟨(h.end_ ht).1, ?_⟩
  cases d with
  | zero => exact hw.elim
  | succ d =>
    obtain ⟨k, num, rt, ns', rs', e, _⟩ := hw
    rw [e] at h1
    have hrow := h1.row
    obtain ⟨q, g1, g2, g3⟩ := (hT _ _ hrow).2.2.2.2.2.2.2.2 0 (ns.getD t []) rfl
    rw [nmR_of hrow]
    exact ⟨q, g1, g2, g3⟩
theorem TR.at {bs : Nat} {rows : List Row} {kf vf af lf xf nf : Nat → Int32} {uf : Nat → Int64} {pf : Nat → Int32} {pn j : Nat} {q : Row} (h : TR bs rows kf vf af lf xf nf uf pf pn) (hj : rows[j]? = some q) : q.1 ≤ 6 ∧ kf (bs + j) = nI q.1 ∧ vf (bs + j) = nI q.2.1 := by
  have := h j q hj
  exact ⟨this.1, this.2.1, this.2.2.1⟩
/-- a row more -/
theorem RPz.row {st s2 : List Frm} {nm : List Nat} {rows : List Row} {sf kf vf af lf xf nf : Nat → Int32} {uf : Nat → Int64} {of o2 pf p9 : Nat → Int32} {pn pn9 n k v : Nat} {hA hL h2 ta tl : Int32} {z : Int} {tx : List Nat} {u : Int64} (h : RPz st nm rows sf kf vf af lf xf nf uf of pf pn hA hL) (hl : n = rows.length) (hq : ∀ j, j < pn → p9 j = pf j) (hn : pn ≤ pn9) (hk : k ≤ 6) (hz : -2 ^ 63 ≤ z ∧ z < 2 ^ 63) (hu : u = lI z) (h4 : k = 4 → ∃ p, ta = nI p ∧ tl = nI tx.length ∧ TXP p9 pn9 p tx) (h5 : ¬ k = 4 → tl = 0 ∧ tx = []) (ho : OPN o2 s2) : RPz s2 [] (rows ++ [(k, v, z, tx, nm)]) (upd sf 8 (nI (n + 1))) (upd kf (384 + n) (nI k)) (upd vf (384 + n) (nI v)) (upd af (384 + n) ta) (upd lf (384 + n) tl) (upd xf (384 + n) hA) (upd nf (384 + n) hL) (vp_updL uf (384 + n) u) o2 p9 pn9 h2 (-1) := by
  obtain ⟨h1, h2', h3, h4'⟩ := h
  refine ⟨?_, h2'.app hl hq hn (TRow.new hk hz hu h4 h5 (h4'.kept hq hn)), ho, HLD.none⟩
  rw [hl]; simp [upd]
/-- a scalar is read -/
theorem LSt.scal {most : Nat} {T : Nat × List Row × List Nat} {st : List Frm} {x tx : List Nat} {k : Nat} {z : Int} {R R' : List Nat} (h91 : ¬ (hd0 R = 91 ∨ hd0 R = 123)) (hs : scl false R = some ((k, z, tx), R')) (hw : WST most R.length st) (hT : fin most st x (pv (most - st.length) R) = T) : LSt most T false (psh st x [(k, 0, z, tx, [])]) [] (flt st ++ [(k, st.length, z, tx, mkN st x)]) R' := by
  have hl := scl_len hs
  rw [scl_pv h91, hs] at hT
  have := LSt.done (r := [(k, 0, z, tx, [])]) (R := R') hw (by omega) ((wr_scal hl.1).up (by omega)) hT
  simpa [setNm, lift] using this
/-- an empty bracket -/
theorem LSt.empty {most : Nat} {T : Nat × List Row × List Nat} {st : List Frm} {x : List Nat} {k : Nat} {R R2 : List Nat} (hk : k = 5 ∨ k = 6) (hb : hd0 R = opnK k) (h2 : R2 = skp (R.drop 1)) (hc : hd0 R2 = clsK k) (hlt : st.length < most) (hw : WST most R.length st) (hT : fin most st x (pv (most - st.length) R) = T) : LSt most T false (psh st x [(k, 0, 0, [], [])]) [] (flt st ++ [(k, st.length, 0, [], mkN st x)]) (R2.drop 1) := by
  have e : most - st.length = (most - (st.length + 1)) + 1 := by omega
  have hkk : (if hd0 R = 91 then 5 else 6) = k := by rcases hk with rfl | rfl <;> rw [hb] <;> decide
  rw [e, pv_brn (by rcases hk with rfl | rfl <;> rw [hb] <;> decide) (by rcases hk with rfl | rfl <;> rw [hb] <;> decide), hkk, ← h2, brnR, if_pos hc] at hT
  have hle := skp_le (R.drop 1)
  rw [← h2, List.length_drop] at hle
  have := LSt.done (r := [(k, 0, 0, [], [])]) (R := R2.drop 1) hw (by rw [List.length_drop]; omega) ((wr_brk hk).up (by omega)) hT
  simpa [setNm, lift] using this
/-- a bracket that is not empty -/
theorem fin_brn {most : Nat} {T : Nat × List Row × List Nat} {st : List Frm} {x : List Nat} {k : Nat} {R R2 : List Nat} (hk : k = 5 ∨ k = 6) (hb : hd0 R = opnK k) (h2 : R2 = skp (R.drop 1)) (hc : ¬ hd0 R2 = clsK k) (hlt : st.length < most) (hT : fin most st x (pv (most - st.length) R) = T) : fin most st x (brnI k (itmR (pv (most - (st.length + 1))) k 160 [] [] R2)) = T := by
  have e : most - st.length = (most - (st.length + 1)) + 1 := by omega
  have hkk : (if hd0 R = 91 then 5 else 6) = k := by rcases hk with rfl | rfl <;> rw [hb] <;> decide
  rw [e, pv_brn (by rcases hk with rfl | rfl <;> rw [hb] <;> decide) (by rcases hk with rfl | rfl <;> rw [hb] <;> decide), hkk, ← h2, brn_I hc] at hT
  exact hT
theorem fin_deep {most : Nat} {T : Nat × List Row × List Nat} {st : List Frm} {x : List Nat} {R : List Nat} (hb : hd0 R = 91 ∨ hd0 R = 123) (he : st.length = most) (hT : fin most st x (pv (most - st.length) R) = T) : T.1 = 2 := by
  rw [he, Nat.sub_self, pv_deep (by omega) hb] at hT
  rw [← hT]; exact fin_bad (by decide)
theorem fin_noscal {most : Nat} {T : Nat × List Row × List Nat} {st : List Frm} {x : List Nat} {R : List Nat} (h91 : ¬ (hd0 R = 91 ∨ hd0 R = 123)) (hs : scl false R = none) (hT : fin most st x (pv (most - st.length) R) = T) : T.1 = 1 := by
  rw [scl_pv h91, hs] at hT
  rw [← hT]; exact fin_bad (by decide)
theorem scl_nil : scl false [] = none := by decide
/-- behind a part: the bracket closes -/
theorem LSt.close {most : Nat} {T : Nat × List Row × List Nat} {F : Frm} {st : List Frm} {R : List Nat} (hs : skp R = R) (hc : hd0 R = clsK F.1) (hw : WST most R.length (F :: st)) (hT : fin most st F.2.2.1 (itq (pv (most - (st.length + 1))) F.1 F.2.1 F.2.2.2.1 F.2.2.2.2 R) = T) : LSt most T false (psh st F.2.2.1 ((F.1, 0, 0, [], []) :: kidRows F.1 F.2.2.2.1 F.2.2.2.2)) [] (flt (F :: st)) (R.drop 1) := by
  rw [itq, hs, if_pos hc] at hT
  rw [flt_close]
  exact LSt.done hw.2.2.2.2.2 (by rw [List.length_drop]; omega) hw.wr hT
theorem fin_comma {most : Nat} {T : Nat × List Row × List Nat} {F : Frm} {st : List Frm} {R : List Nat} (hs : skp R = R) (hc : ¬ hd0 R = clsK F.1) (h44 : hd0 R = 44) (hT : fin most st F.2.2.1 (itq (pv (most - (st.length + 1))) F.1 F.2.1 F.2.2.2.1 F.2.2.2.2 R) = T) : fin most st F.2.2.1 (brnI F.1 (itmR (pv (most - (st.length + 1))) F.1 F.2.1 F.2.2.2.1 F.2.2.2.2 (R.drop 1))) = T := by
  rw [itq, hs, if_neg hc, if_pos h44] at hT
  exact hT
theorem fin_nocomma {most : Nat} {T : Nat × List Row × List Nat} {F : Frm} {st : List Frm} {R : List Nat} (hs : skp R = R) (hc : ¬ hd0 R = clsK F.1) (h44 : ¬ hd0 R = 44) (hT : fin most st F.2.2.1 (itq (pv (most - (st.length + 1))) F.1 F.2.1 F.2.2.2.1 F.2.2.2.2 R) = T) : T.1 = 1 := by
  rw [itq, hs, if_neg hc, if_neg h44] at hT
  rw [← hT]; exact fin_bad (by decide)
theorem itm_skp {f : List Nat → Nat × List Row × List Nat} {k n : Nat} {ns : List (List Nat)} {rs : List (List Row)} {R : List Nat} : itmR f k (n + 1) ns rs (skp R) = itmR f k (n + 1) ns rs R := by
  rw [itmR, itmR, skp_skp]
theorem flt_len {k n : Nat} {x : List Nat} {st : List Frm} {ns : List (List Nat)} {rs : List (List Row)} : (flt st).length < (flt ((k, n, x, ns, rs) :: st)).length := by
  rw [flt, List.length_append, List.length_cons]; omega
