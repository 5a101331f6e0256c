/-! THE LAW. How deep is what is read and patched -/
theorem dpt_cons (q : Row) (r : List Row) : dpt (q :: r) = max (q.2.1 + (if 5 ≤ q.1 then 1 else 0)) (dpt r) := rfl
theorem dpt_leaf {k : Nat} {z : Int} {t : List Nat} (h : k < 5) : dpt [(k, 0, z, t, [])] = 0 := by
  rw [dpt_cons]
  show max (0 + (if 5 ≤ k then 1 else 0)) (dpt []) = 0
  rw [if_neg (by omega)]
  rfl
theorem dpt_brk {k d : Nat} {r : List Row} (h : dpt r ≤ d + 1) : dpt ((k, 0, 0, [], []) :: r) ≤ d + 1 := by
  rw [dpt_cons]
  show max (0 + (if 5 ≤ k then 1 else 0)) (dpt r) ≤ d + 1
  split <;> omega
theorem dpt_kid_le {k d : Nat} : ∀ (ns : List (List Nat)) (rs : List (List Row)), (∀ r ∈ rs, dpt r ≤ d) → dpt (kidRows k ns rs) ≤ d + 1
  | n :: ns, r :: rs, h => by
    rw [kidRows, dpt_app]
    have ih := dpt_kid_le (k := k) ns rs (fun x hx => h x (List.mem_cons_of_mem _ hx))
    have h0 := h r List.mem_cons_self
    have e : dpt (raise (if k = 6 then setNm (0 :: n) r else r)) ≤ d + 1 := by
      by_cases hr : r = []
      · subst hr
        have h1 : raise (if k = 6 then setNm (0 :: n) [] else []) = [] := by split <;> rfl
        rw [h1]
        exact Nat.zero_le _
      · split
        · rw [dpt_raise _ (setNm_ne hr), dpt_setNm]; omega
        · rw [dpt_raise _ hr]; omega
    omega
  | [], _, _ => by rw [kidRows]; exact Nat.zero_le _; simp
  | _ :: _, [], _ => by rw [kidRows]; exact Nat.zero_le _; simp
def Dpc (d : Nat) (f : List Nat → Nat × List Row × List Nat) : Prop := ∀ R, (f R).1 = 0 → dpt (f R).2.1 ≤ d
theorem one_dpc {d : Nat} {f : List Nat → Nat × List Row × List Nat} (hc : Dpc d f) (k : Nat) (ns : List (List Nat)) (R : List Nat) (h : (oneR f k ns R).1 = 0) : dpt (oneR f k ns R).2.1.2 ≤ d := by
  unfold oneR at h ⊢
  split
  · next h0 =>
    rw [if_pos h0] at h
    unfold memR at h ⊢
    split
    · next h1 =>
      rw [if_pos h1] at h
      cases hq : qtd 34 (R.drop 1) with
      | none => rw [hq] at h; exact absurd h Nat.one_ne_zero
      | some q =>
        rw [hq] at h
        simp only at h ⊢
        split
        · next h2 => rw [if_pos h2] at h; exact absurd h (by decide)
        · next h2 =>
          rw [if_neg h2] at h
          split
          · next h3 => rw [if_pos h3] at h; exact hc _ h
          · next h3 => rw [if_neg h3] at h; exact absurd h Nat.one_ne_zero
    · next h1 => rw [if_neg h1] at h; exact absurd h Nat.one_ne_zero
  · next h0 => rw [if_neg h0] at h; exact hc R h
theorem itm_dpc {d : Nat} {f : List Nat → Nat × List Row × List Nat} (hc : Dpc d f) (k : Nat) : ∀ (n : Nat) (ns : List (List Nat)) (rs : List (List Row)) (R : List Nat), (∀ x ∈ rs, dpt x ≤ d) → (itmR f k n ns rs R).1 = 0 → ∀ x ∈ (itmR f k n ns rs R).2.1.2, dpt x ≤ d
  | 0, _, _, _, _, h => absurd h (by rw [itmR]; decide)
  | n + 1, ns, rs, R, hr, h => by
    rw [itm_succ] at h ⊢
    split
    · next h0 =>
      rw [if_pos h0] at h
      have h1 := one_dpc hc k ns (skp R) h0
      have hr2 : ∀ x ∈ rs ++ [(oneR f k ns (skp R)).2.1.2], dpt x ≤ d := fun x hx => (List.mem_append.mp hx).elim (hr x) (fun hx => by rw [List.mem_singleton.mp hx]; exact h1)
      split
      · exact hr2
      · next h4 =>
        rw [if_neg h4] at h
        split
        · next h5 => rw [if_pos h5] at h; exact itm_dpc hc k n _ _ _ hr2 h
        · next h5 => rw [if_neg h5] at h; exact absurd h Nat.one_ne_zero
    · next h0 => rw [if_neg h0] at h; exact absurd h h0
theorem brn_dpc {d : Nat} {f : List Nat → Nat × List Row × List Nat} (hc : Dpc d f) (k : Nat) : Dpc (d + 1) (brnR f k) := by
  intro R h
  unfold brnR at h ⊢
  split
  · exact dpt_brk (r := []) (Nat.zero_le _)
  · next h0 =>
    rw [if_neg h0] at h
    split
    · next h1 =>
      have h2 := itm_dpc hc k 160 [] [] R (fun x hx => absurd hx List.not_mem_nil) h1
      exact dpt_brk (dpt_kid_le _ _ h2)
    · next h1 => rw [if_neg h1] at h; exact absurd h h1
theorem str_dpc {d : Nat} (R : List Nat) (h : (strR R).1 = 0) : dpt (strR R).2.1 ≤ d := by
  unfold strR at h ⊢
  cases hq : qtd 34 (R.drop 1) with
  | none => rw [hq] at h; exact absurd h Nat.one_ne_zero
  | some q =>
    show dpt [(4, 0, 0, q.1, [])] ≤ d
    rw [dpt_leaf (by decide)]
    exact Nat.zero_le _
theorem sca_dpc {d : Nat} (R : List Nat) (h : (scaR R).1 = 0) : dpt (scaR R).2.1 ≤ d := by
  unfold scaR at h ⊢
  split
  · next h0 =>
    rw [if_pos h0] at h
    cases hq : num R with
    | none => rw [hq] at h; exact absurd h Nat.one_ne_zero
    | some q =>
      show dpt [(3, 0, q.1, [], [])] ≤ d
      rw [dpt_leaf (by decide)]
      exact Nat.zero_le _
  · next h0 =>
    rw [if_neg h0] at h
    cases hq : wrd R with
    | none => rw [hq] at h; exact absurd h Nat.one_ne_zero
    | some q =>
      show dpt [(wrdK R, 0, 0, [], [])] ≤ d
      rw [dpt_leaf (by have := wrdK_le (R := R); omega)]
      exact Nat.zero_le _
theorem pv_dpc : ∀ d, Dpc d (pv d)
  | 0 => fun R h => by
    by_cases h1 : hd0 R = 34
    · rw [pv_str h1] at h ⊢; exact str_dpc R h
    · by_cases h2 : hd0 R = 91 ∨ hd0 R = 123
      · rw [pv_deep h1 h2] at h; exact absurd h (by decide)
      · rw [pv_sca h1 h2] at h ⊢; exact sca_dpc R h
  | d + 1 => fun R h => by
    by_cases h1 : hd0 R = 34
    · rw [pv_str h1] at h ⊢; exact str_dpc R h
    · by_cases h2 : hd0 R = 91 ∨ hd0 R = 123
      · rw [pv_brn h1 h2] at h ⊢
        exact brn_dpc (pv_dpc d) _ _ h
      · rw [pv_sca h1 h2] at h ⊢; exact sca_dpc R h
theorem whl_dpt (d : Nat) (L : List Nat) : dpt (whl d L).2 ≤ d := by
  unfold whl
  split
  · next h =>
    split
    · exact pv_dpc d _ h
    · exact Nat.zero_le _
  · exact Nat.zero_le _
theorem prf_dpt {lim rm : Nat} : ∀ (os : List Opn) (w : List Row), dpt w ≤ lim → dpt (prfR lim rm os w).2 ≤ lim
  | [], w, h => h
  | o :: os, w, hw => by
    rw [prfR]
    split
    · split
      · next h1 => exact prf_dpt os _ h1.2
      · split <;> exact Nat.zero_le _
    · exact Nat.zero_le _
theorem pat_dpt {lim rm : Nat} {L : List Nat} {w : List Row} (hw : dpt w ≤ lim) : dpt (patR lim rm L w).2 ≤ lim := by
  unfold patR
  split
  · cases hq : allR (whl (lim + 2) L).2 with
    | none => exact Nat.zero_le _
    | some os => exact prf_dpt os w hw
  · exact Nat.zero_le _
theorem put0 {lim rm : Nat} {L : List Nat} (h : putC lim rm L = 0) : (whl lim L).1 = 0 ∧ (whl lim L).2.length ≤ rm := by
  unfold putC at h
  split at h
  · next h1 =>
    split at h
    · next h2 => exact ⟨h1, h2⟩
    · exact absurd h (by decide)
  · next h1 => exact absurd h h1
/-! the letters of a write -/
def wrL (w : Int64) : Nat → List Nat
  | 0 => []
  | n + 1 => if wr_b w n = 0 then wrL w n else wrL w n ++ [wr_b w n]
theorem wrL_len (w : Int64) : ∀ n, (wrL w n).length = wr_n w n
  | 0 => rfl
  | n + 1 => by
    rw [wrL, wr_n_s]
    split
    · exact wrL_len w n
    · rw [List.length_append, wrL_len w n]; rfl
theorem wrL_mem (w : Int64) {c : Nat} : ∀ n, c ∈ wrL w n → ∃ j, j < n ∧ wr_b w j ≠ 0 ∧ c = wr_b w j
  | 0, h => absurd h List.not_mem_nil
  | n + 1, h => by
    rw [wrL] at h
    split at h
    · obtain ⟨j, h1, h2, h3⟩ := wrL_mem w n h; exact ⟨j, by omega, h2, h3⟩
    · next h0 =>
      rcases List.mem_append.mp h with h | h
      · obtain ⟨j, h1, h2, h3⟩ := wrL_mem w n h; exact ⟨j, by omega, h2, h3⟩
      · exact ⟨n, by omega, h0, List.mem_singleton.mp h⟩
theorem wrL_at (w : Int64) : ∀ n i, i < wr_n w n → ∃ j, j < n ∧ wr_b w j ≠ 0 ∧ wr_n w j = i ∧ (wrL w n).getD i 0 = wr_b w j
  | 0, i, h => absurd h (Nat.not_lt_zero i)
  | n + 1, i, h => by
    rw [wr_n_s] at h
    rw [wrL]
    by_cases h0 : wr_b w n = 0
    · rw [if_pos h0] at h ⊢
      obtain ⟨j, h1, h2, h3, h4⟩ := wrL_at w n i h
      exact ⟨j, by omega, h2, h3, h4⟩
    · rw [if_neg h0] at h ⊢
      by_cases hi : i < wr_n w n
      · obtain ⟨j, h1, h2, h3, h4⟩ := wrL_at w n i hi
        refine ⟨j, by omega, h2, h3, ?_⟩
        rw [List.getD_eq_getElem?_getD, List.getElem?_append_left (by rw [wrL_len]; exact hi), ← List.getD_eq_getElem?_getD]
        exact h4
      · refine ⟨n, by omega, h0, by omega, ?_⟩
        have e : i = (wrL w n).length := by rw [wrL_len]; omega
        rw [e, List.getD_eq_getElem?_getD, List.getElem?_append_right (Nat.le_refl _), Nat.sub_self]
        rfl
theorem drf_write {L : List Nat} {f f9 : Nat → Int32} {w : Int64} (h : Drf L f) (hk : ∀ i, i < L.length → f9 i = f i) (ha : wr_ans w L.length) (hv : ∀ i, i < 8 → wr_b w i ≠ 0 → f9 (L.length + wr_n w i) = nI (wr_b w i)) : Drf (L ++ wrL w 8) f9 := by
  refine ⟨?_, ?_, ?_⟩
  · rw [List.length_append, wrL_len]; exact ha.2
  · intro c hc
    rcases List.mem_append.mp hc with hc | hc
    · exact h.2.1 c hc
    · obtain ⟨j, h1, h2, h3⟩ := wrL_mem w 8 hc
      rcases ha.1 j h1 with h4 | h4
      · exact absurd h4 h2
      · rw [h3]; omega
  · intro i hi
    rw [List.length_append, wrL_len] at hi
    by_cases hl : i < L.length
    · rw [hk i hl, h.2.2 i hl, List.getD_eq_getElem?_getD, List.getD_eq_getElem?_getD, List.getElem?_append_left hl]
    · obtain ⟨j, h1, h2, h3, h4⟩ := wrL_at w 8 (i - L.length) (by omega)
      have e : i = L.length + wr_n w j := by omega
      rw [List.getD_eq_getElem?_getD, List.getElem?_append_right (by omega), ← List.getD_eq_getElem?_getD, h4, ← hv j h1 h2, ← e]
/-- both sides' write -/
theorem law_write {L : List Nat} {f1 f2 g1 g2 : Nat → Int32} {w : Int64} {r1 r2 : Int32} {d1 d2 : Nat} (h1 : Drf L f1) (h2 : Drf L f2)
    (p1 : (∀ i, i < L.length → g1 i = f1 i) ∧ ((wr_ans w L.length ∧ r1 = 1 ∧ d1 = L.length + wr_n w 8 ∧ (∀ i, i < 8 → wr_b w i ≠ 0 → g1 (L.length + wr_n w i) = nI (wr_b w i))) ∨ (¬ wr_ans w L.length ∧ r1 = 0 ∧ d1 = L.length)))
    (p2 : (∀ i, i < L.length → g2 i = f2 i) ∧ ((wr_ans w L.length ∧ r2 = 1 ∧ d2 = L.length + wr_n w 8 ∧ (∀ i, i < 8 → wr_b w i ≠ 0 → g2 (L.length + wr_n w i) = nI (wr_b w i))) ∨ (¬ wr_ans w L.length ∧ r2 = 0 ∧ d2 = L.length))) :
    r1 = r2 ∧ ∃ M : List Nat, d1 = M.length ∧ d2 = M.length ∧ Drf M g1 ∧ Drf M g2 ∧ M.length ≤ L.length + 8 := by
  obtain ⟨k1, q1⟩ := p1
  obtain ⟨k2, q2⟩ := p2
  have hn := wr_n_le w 8
  rcases q1 with ⟨a1, b1, c1, e1⟩ | ⟨a1, b1, c1⟩
  · rcases q2 with ⟨a2, b2, c2, e2⟩ | ⟨a2, b2, c2⟩
    · exact ⟨b1.trans b2.symm, L ++ wrL w 8, by rw [c1, List.length_append, wrL_len], by rw [c2, List.length_append, wrL_len], drf_write h1 k1 a1 e1, drf_write h2 k2 a2 e2, by rw [List.length_append, wrL_len]; omega⟩
    · exact absurd a1 a2
  · rcases q2 with ⟨a2, b2, c2, e2⟩ | ⟨a2, b2, c2⟩
    · exact absurd a2 a1
    · exact ⟨b1.trans b2.symm, L, c1, c2, ⟨h1.1, h1.2.1, fun i hi => (k1 i hi).trans (h1.2.2 i hi)⟩, ⟨h2.1, h2.2.1, fun i hi => (k2 i hi).trans (h2.2.2 i hi)⟩, by omega⟩
/-! the documents on both sides -/
def dup (D : Nat → Option (List Row)) (k : Nat) (o : Option (List Row)) : Nat → Option (List Row) := fun i => if i = k then o else D i
theorem dup_s {D : Nat → Option (List Row)} {k : Nat} {o : Option (List Row)} : dup D k o k = o := if_pos rfl
theorem dup_n {D : Nat → Option (List Row)} {k i : Nat} {o : Option (List Row)} (h : ¬ i = k) : dup D k o i = D i := if_neg h
def DZ (cB cO : ClassId) (em : Nat) (aK : Nat → Nat) (fz : va_W) (h : Nat → Option Nat) (D : Nat → Option (List Row)) : Prop := ∀ i, i < 3 → DOCz cB cO em aK fz (h i) (D i)
theorem DZ.mono {cB cO : ClassId} {em : Nat} {aK : Nat → Nat} {fz fz2 : va_W} {h : Nat → Option Nat} {D : Nat → Option (List Row)} (hz : DZ cB cO em aK fz h D) (hs : ∀ q ∈ fz, q ∈ fz2) : DZ cB cO em aK fz2 h D := fun i hi => (hz i hi).mono hs
theorem DZ.put {cB cO : ClassId} {em : Nat} {aK : Nat → Nat} {fz fz2 : va_W} {h : Nat → Option Nat} {D : Nat → Option (List Row)} (hz : DZ cB cO em aK fz h D) (hs : ∀ q ∈ fz, q ∈ fz2) {k y8 : Nat} {nn : List Nat} {rows : List Row} (hv : VT cB cO em aK 13 fz2 y8 nn rows) : DZ cB cO em aK fz2 (va_up h k (some y8)) (dup D k (some rows)) := fun i hi => by
  by_cases hk : i = k
  · subst hk
    rw [va_up_self, dup_s]
    exact Or.inr ⟨y8, nn, rows, rfl, rfl, hv⟩
  · rw [va_up_ne _ _ hk, dup_n hk]
    exact (hz i hi).mono hs
theorem DZ.cut {cB cO : ClassId} {em : Nat} {aK : Nat → Nat} {fz : va_W} {h : Nat → Option Nat} {D : Nat → Option (List Row)} (hz : DZ cB cO em aK fz h D) {k : Nat} : DZ cB cO em aK fz (va_up h k none) (dup D k none) := fun i hi => by
  by_cases hk : i = k
  · subst hk
    rw [va_up_self, dup_s]
    exact Or.inl ⟨rfl, rfl⟩
  · rw [va_up_ne _ _ hk, dup_n hk]
    exact hz i hi
def DBD (lim rm : Nat) (D : Nat → Option (List Row)) : Prop := ∀ i, i < 3 → ∀ w, D i = some w → w.length ≤ rm ∧ dpt w ≤ lim ∧ NML w
theorem DBD.hbd {lim rm : Nat} {D : Nat → Option (List Row)} (h : DBD lim rm D) : ∀ i, i < 3 → ∀ w, D i = some w → w.length ≤ rm ∧ dpt w ≤ lim := fun i hi w hw => ⟨(h i hi w hw).1, (h i hi w hw).2.1⟩
theorem DBD.doc {lim rm : Nat} {D : Nat → Option (List Row)} (h : DBD lim rm D) {k : Int32} {w : List Row} (hw : docK D k = some w) : w.length ≤ rm ∧ dpt w ≤ lim ∧ NML w := by
  by_cases hk : k < 0 ∨ 3 ≤ k
  · rw [docK_no hk] at hw; cases hw
  · rw [docK_yes hk] at hw
    exact h _ (i3 (fun h => hk (Or.inl h)) (fun h => hk (Or.inr h))).1 w hw
theorem DBD.put {lim rm : Nat} {D : Nat → Option (List Row)} (h : DBD lim rm D) {k : Nat} {rows : List Row} (h1 : rows.length ≤ rm) (h2 : dpt rows ≤ lim) (h3 : NML rows) : DBD lim rm (dup D k (some rows)) := fun i hi w hw => by
  by_cases hk : i = k
  · subst hk
    rw [dup_s] at hw
    cases hw
    exact ⟨h1, h2, h3⟩
  · rw [dup_n hk] at hw
    exact h i hi w hw
theorem DBD.cut {lim rm : Nat} {D : Nat → Option (List Row)} (h : DBD lim rm D) {k : Nat} : DBD lim rm (dup D k none) := fun i hi w hw => by
  by_cases hk : i = k
  · subst hk
    rw [dup_s] at hw
    cases hw
  · rw [dup_n hk] at hw
    exact h i hi w hw
/-- a tree of the model against a document, T: what a tree holds -/
def DT (T : Nat → List Row → Prop) (tr : Nat) (o : Option (List Row)) : Prop := match o with
  | none => T tr []
  | some w => T tr w ∧ WR 12 w
theorem DT.keep {T T9 : Nat → List Row → Prop} {tr : Nat} {o : Option (List Row)} (h : DT T tr o) (hk : ∀ rws, T tr rws → T9 tr rws) : DT T9 tr o := by
  cases o with
  | none => exact hk _ h
  | some w => exact ⟨hk _ h.1, h.2⟩
theorem DT.moved {T T9 : Nat → List Row → Prop} {tr t9 : Nat} {o : Option (List Row)} (h : DT T tr o) (hk : T9 t9 (o.getD [])) : DT T9 t9 o := by
  cases o with
  | none => exact hk
  | some w => exact ⟨hk, h.2⟩
theorem DT.rows {T : Nat → List Row → Prop} {tr : Nat} {o : Option (List Row)} (h : DT T tr o) : T tr (o.getD []) := by
  cases o with
  | none => exact h
  | some w => exact h.1
/-- the model against documents, committed documents and results -/
def RS (T : Nat → List Row → Prop) (D C : Nat → Option (List Row)) (lz : List Plc) (rf : Nat → Int32) : Prop :=
  (∀ i, i < 3 → DT T i (D i)) ∧ (∀ i, i < 3 → DT T (3 + i) (C i)) ∧ lz.length ≤ 40 ∧ (∀ q, q < lz.length → rf q = nI (lz.getD q (0, [])).1) ∧ (lz = [] ∨ ∃ w6, T 6 w6 ∧ WR 12 w6 ∧ ∀ x ∈ lz, LOK w6 x)
theorem RS.keep {T : Nat → List Row → Prop} {D C : Nat → Option (List Row)} {lz : List Plc} {rf : Nat → Int32} (h : RS T D C lz rf) (T9 : Nat → List Row → Prop) (hk : ∀ tr rws, tr < 7 → T tr rws → T9 tr rws) : RS T9 D C lz rf :=
  ⟨fun i hi => (h.1 i hi).keep (fun r => hk i r (by omega)), fun i hi => (h.2.1 i hi).keep (fun r => hk (3 + i) r (by omega)), h.2.2.1, h.2.2.2.1, h.2.2.2.2.imp id (fun ⟨w6, a, b, c⟩ => ⟨w6, hk 6 w6 (by decide) a, b, c⟩)⟩
theorem RS.put {T : Nat → List Row → Prop} {D C : Nat → Option (List Row)} {lz : List Plc} {rf : Nat → Int32} (h : RS T D C lz rf) (T9 : Nat → List Row → Prop) {k : Nat} {o : Option (List Row)} (hkn : k < 3) (hk : ∀ tr rws, tr < 7 → ¬ tr = k → T tr rws → T9 tr rws) (ho : DT T9 k o) : RS T9 (dup D k o) C lz rf :=
  ⟨fun i hi => by
    by_cases he : i = k
    · subst he; rw [dup_s]; exact ho
    · rw [dup_n he]; exact (h.1 i hi).keep (fun r => hk i r (by omega) he), fun i hi => (h.2.1 i hi).keep (fun r => hk (3 + i) r (by omega) (by omega)), h.2.2.1, h.2.2.2.1, h.2.2.2.2.imp id (fun ⟨w6, a, b, c⟩ => ⟨w6, hk 6 w6 (by decide) (by omega) a, b, c⟩)⟩
theorem RS.doc {T : Nat → List Row → Prop} {D C : Nat → Option (List Row)} {lz : List Plc} {rf : Nat → Int32} (h : RS T D C lz rf) {k : Int32} (hk : ¬ (k < 0 ∨ 3 ≤ k)) : DT T k.toNatClampNeg (docK D k) := by
  rw [docK_yes hk]
  exact h.1 _ (i3 (fun h => hk (Or.inl h)) (fun h => hk (Or.inr h))).1
theorem dt_dtr {tr : Nat} {o : Option (List Row)} {sf kf vf af lf xf nf : Nat → Int32} {uf : Nat → Int64} {pf : Nat → Int32} {pn : Nat} (h : DT (fun tr rws => TRE tr rws sf kf vf af lf xf nf uf pf pn) tr o) : DTR tr o sf kf vf af lf xf nf uf pf pn := by
  cases o with
  | none => exact h.1
  | some w => exact h
theorem mem_r {α : Type} {a b : List α} : ∀ q ∈ b, q ∈ a ++ b := fun q hq => List.mem_append_right _ hq
/-- both sides' put -/
theorem law_put {cB cO : ClassId} {em : Nat} {aK : Nat → Nat} {nz fz : va_W} {h h9 : Nat → Option Nat} {D C : Nat → Option (List Row)} {lz : List Plc} {rf : Nat → Int32} {lm ro : Nat} {L : List Nat} {k r1 r2 : Int32} (T T9 : Nat → List Row → Prop)
    (hlm : lm ≤ 8) (hL : L.length ≤ 160) (hZ : DZ cB cO em aK fz h D) (hB : DBD lm ro D) (hR : RS T D C lz rf)
    (p1 : (((k < 0 ∨ 3 ≤ k) ∧ r1 = -1) ∧ h9 = h) ∨ (¬ (k < 0 ∨ 3 ≤ k) ∧ r1 = nI (putC lm ro L) ∧ ((¬ putC lm ro L = 0 ∧ h9 = h) ∨ (putC lm ro L = 0 ∧ ∃ y8, h9 = va_up h k.toNatClampNeg (some y8) ∧ VT cB cO em aK (lm + 1) nz y8 [] (whl lm L).2))))
    (p2 : ((k < 0 ∨ 3 ≤ k) ∧ r2 = -1 ∧ (∀ tr rws, tr < 8 → T tr rws → T9 tr rws)) ∨ (¬ (k < 0 ∨ 3 ≤ k) ∧ r2 = nI (putC lm ro L) ∧ ((¬ putC lm ro L = 0 ∧ (∀ tr rws, tr < 8 → T tr rws → T9 tr rws)) ∨ (putC lm ro L = 0 ∧ T9 k.toNatClampNeg (whl lm L).2 ∧ WR (lm + 1) (whl lm L).2 ∧ (∀ tr rws, tr < 8 → ¬ tr = k.toNatClampNeg → T tr rws → T9 tr rws))))) :
    r1 = r2 ∧ ∃ D9, DZ cB cO em aK (nz ++ fz) h9 D9 ∧ DBD lm ro D9 ∧ RS T9 D9 C lz rf := by
  rcases p1 with ⟨⟨hk, a1⟩, b1⟩ | ⟨hk, a1, c1⟩
  · rcases p2 with ⟨_, a2, c2⟩ | ⟨hk2, _⟩
    · subst b1
      exact ⟨a1.trans a2.symm, D, hZ.mono mem_r, hB, hR.keep T9 (fun tr rws ht h => c2 tr rws (by omega) h)⟩
    · exact absurd hk hk2
  · rcases p2 with ⟨hk2, _⟩ | ⟨_, a2, c2⟩
    · exact absurd hk2 hk
    · refine ⟨a1.trans a2.symm, ?_⟩
      have hkn := (i3 (fun h => hk (Or.inl h)) (fun h => hk (Or.inr h))).1
      rcases c1 with ⟨hp, b1⟩ | ⟨hp, y8, b1, v1⟩
      · rcases c2 with ⟨_, d2⟩ | ⟨hp2, _⟩
        · subst b1
          exact ⟨D, hZ.mono mem_r, hB, hR.keep T9 (fun tr rws ht h => d2 tr rws (by omega) h)⟩
        · exact absurd hp2 hp
      · rcases c2 with ⟨hp2, _⟩ | ⟨_, t2, w2, d2⟩
        · exact absurd hp hp2
        · subst b1
          obtain ⟨g1, g2⟩ := put0 hp
          exact ⟨dup D k.toNatClampNeg (some (whl lm L).2), hZ.put mem_r ((v1.up (by omega)).mono (fun q hq => List.mem_append_left _ hq)), hB.put g2 (whl_dpt lm L) (nml_whl lm L hL), hR.put T9 hkn (fun tr rws ht hn h => d2 tr rws (by omega) hn h) ⟨t2, w2.up (by omega)⟩⟩
/-- both sides' patch -/
theorem law_patch {cB cO : ClassId} {em : Nat} {aK : Nat → Nat} {nz fz : va_W} {h h9 : Nat → Option Nat} {D C : Nat → Option (List Row)} {lz : List Plc} {rf : Nat → Int32} {lm ro : Nat} {L : List Nat} {k r1 r2 : Int32} (T T9 : Nat → List Row → Prop)
    (hlm : lm ≤ 8) (hZ : DZ cB cO em aK fz h D) (hB : DBD lm ro D) (hR : RS T D C lz rf)
    (p1 : (docK D k = none ∧ r1 = -1 ∧ h9 = h) ∨ ∃ w9, docK D k = some w9 ∧ r1 = nI (patR lm ro L w9).1 ∧ ((¬ (patR lm ro L w9).1 = 0 ∧ h9 = h) ∨ ((patR lm ro L w9).1 = 0 ∧ ∃ y8 n8, h9 = va_up h k.toNatClampNeg (some y8) ∧ VT cB cO em aK (lm + 1) (nz ++ fz) y8 n8 (patR lm ro L w9).2 ∧ (patR lm ro L w9).2.length ≤ ro)))
    (p2 : (((k < 0 ∨ 3 ≤ k) ∨ docK D k = none) ∧ r2 = -1 ∧ (∀ tr rws, tr < 7 → T tr rws → T9 tr rws)) ∨ (∃ w8, ¬ (k < 0 ∨ 3 ≤ k) ∧ docK D k = some w8 ∧ r2 = nI (patR lm ro L w8).1 ∧ ((¬ (patR lm ro L w8).1 = 0 ∧ (∀ tr rws, tr < 7 → T tr rws → T9 tr rws)) ∨ ((patR lm ro L w8).1 = 0 ∧ T9 k.toNatClampNeg (patR lm ro L w8).2 ∧ WR 12 (patR lm ro L w8).2 ∧ NML (patR lm ro L w8).2 ∧ (∀ tr rws, tr < 7 → ¬ tr = k.toNatClampNeg → T tr rws → T9 tr rws))))) :
    r1 = r2 ∧ ∃ D9, DZ cB cO em aK (nz ++ fz) h9 D9 ∧ DBD lm ro D9 ∧ RS T9 D9 C lz rf := by
  rcases p1 with ⟨hd, a1, b1⟩ | ⟨w9, hd, a1, c1⟩
  · rcases p2 with ⟨_, a2, c2⟩ | ⟨w8, hk2, hd2, _⟩
    · subst b1
      exact ⟨a1.trans a2.symm, D, hZ.mono mem_r, hB, hR.keep T9 c2⟩
    · rw [hd] at hd2; cases hd2
  · rcases p2 with ⟨hk2, _⟩ | ⟨w8, hk, hd2, a2, c2⟩
    · rcases hk2 with hk2 | hk2
      · rw [docK_no hk2] at hd; cases hd
      · rw [hk2] at hd; cases hd
    · obtain rfl : w9 = w8 := Option.some.inj (hd.symm.trans hd2)
      refine ⟨a1.trans a2.symm, ?_⟩
      have hkn := (i3 (fun h => hk (Or.inl h)) (fun h => hk (Or.inr h))).1
      rcases c1 with ⟨hp, b1⟩ | ⟨hp, y8, n8, b1, v1, l1⟩
      · rcases c2 with ⟨_, d2⟩ | ⟨hp2, _⟩
        · subst b1
          exact ⟨D, hZ.mono mem_r, hB, hR.keep T9 d2⟩
        · exact absurd hp2 hp
      · rcases c2 with ⟨hp2, _⟩ | ⟨_, t2, w2, n2, d2⟩
        · exact absurd hp hp2
        · subst b1
          exact ⟨dup D k.toNatClampNeg (some (patR lm ro L w9).2), hZ.put mem_r (v1.up (by omega)), hB.put l1 (pat_dpt (hB.doc hd).2.1) n2, hR.put T9 hkn d2 ⟨t2, w2⟩⟩
/-- both sides' query -/
theorem law_query {cB cO : ClassId} {em fo fo9 : Nat} {aK : Nat → Nat} {nz fz : va_W} {D C : Nat → Option (List Row)} {lz : List Plc} {xs : List Nat} {rf rf9 : Nat → Int32} {L : List Nat} {k r1 r2 ir rs9 : Int32} (T T9 : Nat → List Row → Prop)
    (hA : ALz cO em fz fo xs) (hV : VLS cB cO em aK fz xs lz) (hir : ir = nI lz.length) (hR : RS T D C lz rf)
    (p1 : (docK D k = none ∧ r1 = -1 ∧ fo9 = fo) ∨ ∃ w9, docK D k = some w9 ∧ ((pth L = none ∧ r1 = -2 ∧ fo9 = fo) ∨ ∃ sgs8 : List Sgm, pth L = some sgs8 ∧ ((eva sgs8 [(0, w9)] = none ∧ r1 = -4 ∧ fo9 = fo) ∨ ∃ (lz8 : List Plc) (x8 : List Nat), eva sgs8 [(0, w9)] = some lz8 ∧ r1 = nI lz8.length ∧ ALz cO em (nz ++ fz) fo9 x8 ∧ VLS cB cO em aK (nz ++ fz) x8 lz8 ∧ x8.length ≤ 40)))
    (p2 : (((k < 0 ∨ 3 ≤ k) ∨ docK D k = none) ∧ r2 = -1 ∧ rs9 = ir ∧ rf9 = rf ∧ (∀ tr8 rws, tr8 < 8 → T tr8 rws → T9 tr8 rws)) ∨ (∃ w8 : List Row, ¬ (k < 0 ∨ 3 ≤ k) ∧ docK D k = some w8 ∧ ((pth L = none ∧ r2 = -2 ∧ rs9 = ir ∧ rf9 = rf ∧ (∀ tr8 rws, tr8 < 8 → T tr8 rws → T9 tr8 rws)) ∨ (∃ sgs8 : List Sgm, pth L = some sgs8 ∧ ((eva sgs8 [(0, w8)] = none ∧ r2 = -4 ∧ rs9 = ir ∧ rf9 = rf ∧ (∀ tr8 rws, tr8 < 8 → T tr8 rws → T9 tr8 rws)) ∨ (∃ lz8 : List Plc, eva sgs8 [(0, w8)] = some lz8 ∧ r2 = nI lz8.length ∧ lz8.length ≤ 40 ∧ rs9 = nI lz8.length ∧ (∀ q, q < lz8.length → rf9 q = nI (lz8.getD q (0, [])).1) ∧ (∀ x8 ∈ lz8, LOK w8 x8) ∧ T9 6 w8 ∧ (∀ tr8 rws, tr8 < 8 → ¬ tr8 = 6 → T tr8 rws → T9 tr8 rws))))))) :
    r1 = r2 ∧ ∃ (lz9 : List Plc) (x9 : List Nat), ALz cO em (nz ++ fz) fo9 x9 ∧ VLS cB cO em aK (nz ++ fz) x9 lz9 ∧ rs9 = nI lz9.length ∧ RS T9 D C lz9 rf9 := by
  have same : r1 = r2 → fo9 = fo → rs9 = ir → rf9 = rf → (∀ tr8 rws, tr8 < 8 → T tr8 rws → T9 tr8 rws) → r1 = r2 ∧ ∃ (lz9 : List Plc) (x9 : List Nat), ALz cO em (nz ++ fz) fo9 x9 ∧ VLS cB cO em aK (nz ++ fz) x9 lz9 ∧ rs9 = nI lz9.length ∧ RS T9 D C lz9 rf9 := by
    intro e1 e2 e3 e4 hk
    subst e2 e4
    exact ⟨e1, lz, xs, hA.mono mem_r, hV.mono mem_r, e3.trans hir, hR.keep T9 (fun tr rws ht h => hk tr rws (by omega) h)⟩
  rcases p1 with ⟨hd, a1, b1⟩ | ⟨w9, hd, p1⟩
  · rcases p2 with ⟨_, a2, c2, d2, k2⟩ | ⟨w8, hk2, hd2, _⟩
    · exact same (a1.trans a2.symm) b1 c2 d2 k2
    · rw [hd] at hd2; cases hd2
  · rcases p2 with ⟨hk2, _⟩ | ⟨w8, hk, hd2, p2⟩
    · rcases hk2 with hk2 | hk2
      · rw [docK_no hk2] at hd; cases hd
      · rw [hk2] at hd; cases hd
    · obtain rfl : w9 = w8 := Option.some.inj (hd.symm.trans hd2)
      rcases p1 with ⟨hp, a1, b1⟩ | ⟨sg, hp, p1⟩
      · rcases p2 with ⟨_, a2, c2, d2, k2⟩ | ⟨sg2, hp2, _⟩
        · exact same (a1.trans a2.symm) b1 c2 d2 k2
        · rw [hp] at hp2; cases hp2
      · rcases p2 with ⟨hp2, _⟩ | ⟨sg2, hp2, p2⟩
        · rw [hp] at hp2; cases hp2
        · obtain rfl : sg = sg2 := Option.some.inj (hp.symm.trans hp2)
          rcases p1 with ⟨he, a1, b1⟩ | ⟨l1, x1, he, a1, A1, V1, n1⟩
          · rcases p2 with ⟨_, a2, c2, d2, k2⟩ | ⟨l2, he2, _⟩
            · exact same (a1.trans a2.symm) b1 c2 d2 k2
            · rw [he] at he2; cases he2
          · rcases p2 with ⟨he2, _⟩ | ⟨l2, he2, a2, n2, c2, d2, o2, t2, k2⟩
            · rw [he] at he2; cases he2
            · obtain rfl : l1 = l2 := Option.some.inj (he.symm.trans he2)
              have hw : WR 12 w9 := by
                have h9 := hR.doc hk
                rw [hd] at h9
                exact h9.2
              exact ⟨a1.trans a2.symm, l1, x1, A1, V1, c2, fun i hi => (hR.1 i hi).keep (fun r => k2 i r (by omega) (by omega)), fun i hi => (hR.2.1 i hi).keep (fun r => k2 (3 + i) r (by omega) (by omega)), n2, d2, Or.inr ⟨w9, t2, hw, o2⟩⟩
/-! the calls that only ask -/
def rwD (D : Nat → Option (List Row)) (i : Nat) : List Row := (D i).getD []
theorem rwD_none {D : Nat → Option (List Row)} {i : Nat} (h : D i = none) : rwD D i = [] := by unfold rwD; rw [h]; rfl
theorem rwD_some {D : Nat → Option (List Row)} {i : Nat} {w : List Row} (h : D i = some w) : rwD D i = w := by unfold rwD; rw [h]; rfl
section LT
variable {D C : Nat → Option (List Row)} {lz : List Plc} {rf : Nat → Int32} {sf kf vf af lf xf nf : Nat → Int32} {uf : Nat → Int64} {pf : Nat → Int32} {pn : Nat}
theorem rs_sz (h : RS (fun tr rws => TRE tr rws sf kf vf af lf xf nf uf pf pn) D C lz rf) : ∀ i, i < 3 → sf i = nI (rwD D i).length ∧ (rwD D i).length ≤ 96 := fun i hi => by
  have h1 : TRE i (rwD D i) sf kf vf af lf xf nf uf pf pn := (h.1 i hi).rows
  exact ⟨h1.1, Nat.le_trans h1.2.1 (by decide)⟩
theorem rs_lv (h : RS (fun tr rws => TRE tr rws sf kf vf af lf xf nf uf pf pn) D C lz rf) : ∀ i, i < 3 → ∀ j, j < (rwD D i).length → (vf (bsK i + j) = nI (lvR (rwD D i) j) ∧ lvR (rwD D i) j < 1000) ∧ (kf (bsK i + j) = nI (kdR (rwD D i) j) ∧ kdR (rwD D i) j ≤ 6) := fun i hi j hj => by
  have h1 := h.1 i hi
  cases hd : D i with
  | none => rw [rwD_none hd] at hj; exact absurd hj (Nat.not_lt_zero _)
  | some w =>
    rw [rwD_some hd] at hj ⊢
    rw [hd] at h1
    have h2 : TRE i w sf kf vf af lf xf nf uf pf pn ∧ WR 12 w := h1
    exact ⟨TR.lvs h2.1.2.2 h2.2 (Nat.le_refl _) hj, kdR_le h2.1.2.2 hj⟩
theorem rs_pos {T : Nat → List Row → Prop} (h : RS T D C lz rf) {i : Nat} (hi : i < 3) {w : List Row} (hd : D i = some w) : 0 < w.length := by
  have h1 := h.1 i hi
  rw [hd] at h1
  exact wr_pos h1.2
theorem law_count {k r1 r2 : Int32} (p1 : r1 = (match docK D k with | none => 0 | some w => nI w.length)) (p2 : r2 = if k < 0 ∨ 3 ≤ k then 0 else nI (rwD D k.toNatClampNeg).length) : r1 = r2 := by
  subst p1 p2
  by_cases hk : k < 0 ∨ 3 ≤ k
  · rw [docK_no hk, if_pos hk]
  · rw [docK_yes hk, if_neg hk]
    cases hd : D k.toNatClampNeg with
    | none => rw [rwD_none hd]; rfl
    | some w => rw [rwD_some hd]
theorem law_depth {T : Nat → List Row → Prop} (hR : RS T D C lz rf) {k r1 r2 : Int32} (p1 : r1 = (match docK D k with | none => -1 | some w => nI (dpt w))) (p2 : r2 = if (k < 0 ∨ 3 ≤ k) ∨ (rwD D k.toNatClampNeg).length = 0 then -1 else nI (dpA (lvR (rwD D k.toNatClampNeg)) (kdR (rwD D k.toNatClampNeg)) (rwD D k.toNatClampNeg).length)) : r1 = r2 := by
  subst p1 p2
  by_cases hk : k < 0 ∨ 3 ≤ k
  · rw [docK_no hk, if_pos (Or.inl hk)]
  · rw [docK_yes hk]
    have hkn := (i3 (fun h => hk (Or.inl h)) (fun h => hk (Or.inr h))).1
    cases hd : D k.toNatClampNeg with
    | none => rw [rwD_none hd]; exact (if_pos (Or.inr rfl)).symm
    | some w =>
      have hp := rs_pos hR hkn hd
      rw [rwD_some hd, if_neg (fun h => h.elim hk (fun h => by omega)), dpA_dpt w _ (Nat.le_refl _), List.take_length]
/-- both sides' delete -/
theorem law_delete {cB cO : ClassId} {em : Nat} {aK : Nat → Nat} {fz : va_W} {h h9 : Nat → Option Nat} {lm ro : Nat} {s9 : Nat → Int32} {k r1 r2 : Int32}
    (hZ : DZ cB cO em aK fz h D) (hB : DBD lm ro D) (hR : RS (fun tr rws => TRE tr rws sf kf vf af lf xf nf uf pf pn) D C lz rf)
    (p1 : (r1 = 0 ∧ docK D k = none ∧ h9 = h) ∨ (r1 = 1 ∧ (∃ w8, docK D k = some w8) ∧ k.toNatClampNeg < 3 ∧ h9 = va_up h k.toNatClampNeg none))
    (p2 : (r2 = 0 ∧ ((k < 0 ∨ 3 ≤ k) ∨ (rwD D k.toNatClampNeg).length = 0) ∧ s9 = sf) ∨ (r2 = 1 ∧ ¬ (k < 0 ∨ 3 ≤ k) ∧ ¬ (rwD D k.toNatClampNeg).length = 0 ∧ s9 = upd sf k.toNatClampNeg 0)) :
    r1 = r2 ∧ ∃ D9, DZ cB cO em aK fz h9 D9 ∧ DBD lm ro D9 ∧ RS (fun tr rws => TRE tr rws s9 kf vf af lf xf nf uf pf pn) D9 C lz rf := by
  rcases p1 with ⟨a1, hd, b1⟩ | ⟨a1, ⟨w8, hd⟩, hkn, b1⟩
  · rcases p2 with ⟨a2, _, b2⟩ | ⟨a2, hk, hz, b2⟩
    · subst b1 b2
      exact ⟨a1.trans a2.symm, D, hZ, hB, hR⟩
    · rw [docK_yes hk] at hd
      rw [rwD_none hd] at hz
      exact absurd rfl hz
  · rcases p2 with ⟨a2, hk, b2⟩ | ⟨a2, hk, hz, b2⟩
    · rcases hk with hk | hk
      · rw [docK_no hk] at hd; cases hd
      · by_cases hb : k < 0 ∨ 3 ≤ k
        · rw [docK_no hb] at hd; cases hd
        · rw [docK_yes hb] at hd
          have hp := rs_pos hR hkn hd
          rw [rwD_some hd] at hk
          omega
    · subst b1 b2
      refine ⟨a1.trans a2.symm, dup D k.toNatClampNeg none, hZ.cut, hB.cut, hR.put _ hkn (fun tr rws ht hn h => ?_) ?_⟩
      · have h5 : TRE tr rws sf kf vf af lf xf nf uf pf pn := h
        show TRE tr rws (upd sf k.toNatClampNeg 0) kf vf af lf xf nf uf pf pn
        exact ⟨(pk_un hn).trans h5.1, h5.2⟩
      · show TRE k.toNatClampNeg [] (upd sf k.toNatClampNeg 0) kf vf af lf xf nf uf pf pn
        exact ⟨pk_us, by decide, TR.nil⟩
end LT
/-! commit and crash of the model: three trees copied -/
theorem trees3 {s0 s1 s2 d0 d1 d2 n0 n1 n2 : Nat} {r0 r1 r2 : List Row} {sf kf vf af lf xf nf : Nat → Int32} {uf : Nat → Int64} {pf : Nat → Int32} {pn : Nat} {K1 K2 V1 V2 A1 A2 L1 L2 X1 X2 N1 N2 : Nat → Int32} {U1 U2 : Nat → Int64}
    (h0 : TRE s0 r0 sf kf vf af lf xf nf uf pf pn) (h1 : TRE s1 r1 sf kf vf af lf xf nf uf pf pn) (h2 : TRE s2 r2 sf kf vf af lf xf nf uf pf pn) (l0 : r0.length = n0) (l1 : r1.length = n1) (l2 : r2.length = n2)
    (hs : s1 < 8 ∧ s2 < 8 ∧ d0 < 8 ∧ d1 < 8 ∧ d2 < 8) (hd : ¬ s1 = d0 ∧ ¬ s2 = d0 ∧ ¬ s2 = d1 ∧ ¬ d0 = d1 ∧ ¬ d0 = d2 ∧ ¬ d1 = d2)
    (eK1 : K1 = va_cpy kf kf (bsK s0) (bsK d0) n0) (eK2 : K2 = va_cpy K1 K1 (bsK s1) (bsK d1) n1) (eV1 : V1 = va_cpy vf vf (bsK s0) (bsK d0) n0) (eV2 : V2 = va_cpy V1 V1 (bsK s1) (bsK d1) n1)
    (eA1 : A1 = va_cpy af af (bsK s0) (bsK d0) n0) (eA2 : A2 = va_cpy A1 A1 (bsK s1) (bsK d1) n1) (eL1 : L1 = va_cpy lf lf (bsK s0) (bsK d0) n0) (eL2 : L2 = va_cpy L1 L1 (bsK s1) (bsK d1) n1)
    (eX1 : X1 = va_cpy xf xf (bsK s0) (bsK d0) n0) (eX2 : X2 = va_cpy X1 X1 (bsK s1) (bsK d1) n1) (eN1 : N1 = va_cpy nf nf (bsK s0) (bsK d0) n0) (eN2 : N2 = va_cpy N1 N1 (bsK s1) (bsK d1) n1) (eU1 : U1 = va_cpy uf uf (bsK s0) (bsK d0) n0) (eU2 : U2 = va_cpy U1 U1 (bsK s1) (bsK d1) n1) (T9 : Nat → List Row → Prop) (hT : T9 = fun tr rws => TRE tr rws (upd (upd (upd sf d0 (nI n0)) d1 (nI n1)) d2 (nI n2)) (va_cpy K2 K2 (bsK s2) (bsK d2) n2) (va_cpy V2 V2 (bsK s2) (bsK d2) n2) (va_cpy A2 A2 (bsK s2) (bsK d2) n2) (va_cpy L2 L2 (bsK s2) (bsK d2) n2) (va_cpy X2 X2 (bsK s2) (bsK d2) n2) (va_cpy N2 N2 (bsK s2) (bsK d2) n2) (va_cpy U2 U2 (bsK s2) (bsK d2) n2) pf pn) :
    T9 d0 r0 ∧ T9 d1 r1 ∧ T9 d2 r2 ∧ ∀ tr rws, tr < 8 → ¬ tr = d0 → ¬ tr = d1 → ¬ tr = d2 → TRE tr rws sf kf vf af lf xf nf uf pf pn → T9 tr rws := by
  subst hT
  obtain ⟨hs1, hs2, hd0, hd1, hd2⟩ := hs
  obtain ⟨e1, e2, e3, e4, e5, e6⟩ := hd
  have b0 : n0 ≤ 32 := by rw [← l0]; exact h0.2.1
  have b1 : n1 ≤ 32 := by rw [← l1]; exact h1.2.1
  have b2 : n2 ≤ 32 := by rw [← l2]; exact h2.2.1
  have a0 : TRE d0 r0 (upd sf d0 (nI n0)) K1 V1 A1 L1 X1 N1 U1 pf pn := by
    rw [eK1, eV1, eA1, eL1, eX1, eN1, eU1]; exact TRE.copy h0.2.2 l0 b0
  have k0 : ∀ tr rws, tr < 8 → ¬ tr = d0 → TRE tr rws sf kf vf af lf xf nf uf pf pn → TRE tr rws (upd sf d0 (nI n0)) K1 V1 A1 L1 X1 N1 U1 pf pn := fun tr rws ht hn h => by
    rw [eK1, eV1, eA1, eL1, eX1, eN1, eU1]; exact TRE.other h ht hd0 hn b0
  have a1 : TRE d1 r1 (upd (upd sf d0 (nI n0)) d1 (nI n1)) K2 V2 A2 L2 X2 N2 U2 pf pn := by
    rw [eK2, eV2, eA2, eL2, eX2, eN2, eU2]; exact TRE.copy (k0 s1 r1 hs1 e1 h1).2.2 l1 b1
  have k1 : ∀ tr rws, tr < 8 → ¬ tr = d1 → TRE tr rws (upd sf d0 (nI n0)) K1 V1 A1 L1 X1 N1 U1 pf pn → TRE tr rws (upd (upd sf d0 (nI n0)) d1 (nI n1)) K2 V2 A2 L2 X2 N2 U2 pf pn := fun tr rws ht hn h => by
    rw [eK2, eV2, eA2, eL2, eX2, eN2, eU2]; exact TRE.other h ht hd1 hn b1
  have k2 : ∀ tr rws, tr < 8 → ¬ tr = d2 → TRE tr rws (upd (upd sf d0 (nI n0)) d1 (nI n1)) K2 V2 A2 L2 X2 N2 U2 pf pn → TRE tr rws (upd (upd (upd sf d0 (nI n0)) d1 (nI n1)) d2 (nI n2)) (va_cpy K2 K2 (bsK s2) (bsK d2) n2) (va_cpy V2 V2 (bsK s2) (bsK d2) n2) (va_cpy A2 A2 (bsK s2) (bsK d2) n2) (va_cpy L2 L2 (bsK s2) (bsK d2) n2) (va_cpy X2 X2 (bsK s2) (bsK d2) n2) (va_cpy N2 N2 (bsK s2) (bsK d2) n2) (va_cpy U2 U2 (bsK s2) (bsK d2) n2) pf pn := fun tr rws ht hn h => TRE.other h ht hd2 hn b2
  exact ⟨k2 d0 r0 hd0 e5 (k1 d0 r0 hd0 e4 a0), k2 d1 r1 hd1 e6 a1, TRE.copy (k1 s2 r2 hs2 e3 (k0 s2 r2 hs2 e2 h2)).2.2 l2 b2, fun tr rws ht n0' n1' n2' h => k2 tr rws ht n2' (k1 tr rws ht n1' (k0 tr rws ht n0' h))⟩
theorem RS.commit {T T9 : Nat → List Row → Prop} {D C : Nat → Option (List Row)} {lz : List Plc} {rf : Nat → Int32} (h : RS T D C lz rf) (t0 : T9 3 (rwD D 0)) (t1 : T9 4 (rwD D 1)) (t2 : T9 5 (rwD D 2)) (hk : ∀ tr rws, tr < 8 → ¬ tr = 3 → ¬ tr = 4 → ¬ tr = 5 → T tr rws → T9 tr rws) : RS T9 D D lz rf :=
  ⟨fun i hi => (h.1 i hi).keep (fun r => hk i r (by omega) (by omega) (by omega) (by omega)), fun i hi => by
    rcases (show i = 0 ∨ i = 1 ∨ i = 2 by omega) with rfl | rfl | rfl
    · exact (h.1 0 hi).moved t0
    · exact (h.1 1 hi).moved t1
    · exact (h.1 2 hi).moved t2, h.2.2.1, h.2.2.2.1, h.2.2.2.2.imp id (fun ⟨w6, a, b, c⟩ => ⟨w6, hk 6 w6 (by decide) (by decide) (by decide) (by decide) a, b, c⟩)⟩
theorem RS.crash {T T9 : Nat → List Row → Prop} {D C : Nat → Option (List Row)} {lz : List Plc} {rf : Nat → Int32} (h : RS T D C lz rf) (t0 : T9 0 (rwD C 0)) (t1 : T9 1 (rwD C 1)) (t2 : T9 2 (rwD C 2)) (hk : ∀ tr rws, tr < 8 → ¬ tr = 0 → ¬ tr = 1 → ¬ tr = 2 → T tr rws → T9 tr rws) : RS T9 C C [] rf :=
  ⟨fun i hi => by
    rcases (show i = 0 ∨ i = 1 ∨ i = 2 by omega) with rfl | rfl | rfl
    · exact (h.2.1 0 hi).moved t0
    · exact (h.2.1 1 hi).moved t1
    · exact (h.2.1 2 hi).moved t2, fun i hi => (h.2.1 i hi).keep (fun r => hk (3 + i) r (by omega) (by omega) (by omega) (by omega)), Nat.zero_le _, fun q hq => absurd hq (Nat.not_lt_zero _), Or.inl rfl⟩
theorem DZ.same {cB cO : ClassId} {em : Nat} {aK : Nat → Nat} {fz : va_W} {h h9 : Nat → Option Nat} {D : Nat → Option (List Row)} (hz : DZ cB cO em aK fz h D) (he : ∀ i, i < 3 → h9 i = h i) : DZ cB cO em aK fz h9 D := fun i hi => by rw [he i hi]; exact hz i hi
/-! results -/
theorem getD_map2 {lz : List Plc} {q : Nat} (h : q < lz.length) : (lz.map (fun x => x.2)).getD q [] = (lz.getD q (0, [])).2 := by
  rw [List.getD_eq_getElem?_getD, List.getD_eq_getElem?_getD, List.getElem?_map, List.getElem?_eq_getElem h]
  rfl
theorem shown_prep {cB cO : ClassId} {em : Nat} {aK : Nat → Nat} {fz : va_W} {x8 : List Nat} {lz : List Plc} {T : Nat → List Row → Prop} {D C : Nat → Option (List Row)} {rf : Nat → Int32} (hV : VLS cB cO em aK fz x8 lz) (hR : RS T D C lz rf) :
    ∃ rs : List (List Row), rs.length = lz.length ∧ rs.length = x8.length ∧ (∀ q, q < x8.length → ∃ nn, VT cB cO em aK 13 fz (x8.getD q 0) nn (rs.getD q [])) ∧ rs.length ≤ 40 ∧ (rs = [] ∨ ∃ w6, T 6 w6 ∧ WR 12 w6 ∧ ∀ q, q < rs.length → ∃ i1 l1 nm1, rf q = nI i1 ∧ SUB w6 i1 l1 nm1 (rs.getD q []) ∧ WR 12 (rs.getD q [])) := by
  refine ⟨lz.map (fun x => x.2), List.length_map _, (List.length_map _).trans hV.1, fun q hq => ?_, by rw [List.length_map]; exact hR.2.2.1, ?_⟩
  · obtain ⟨dy, ny, h1, h2, h3⟩ := hV.2 q hq
    rw [getD_map2 (by rw [hV.1]; exact hq)]
    exact ⟨ny, h3.up (by omega)⟩
  · rcases hR.2.2.2.2 with h | ⟨w6, a, b, c⟩
    · exact Or.inl (by rw [h]; rfl)
    · refine Or.inr ⟨w6, a, b, fun q hq => ?_⟩
      rw [List.length_map] at hq
      rw [getD_map2 hq]
      have hm : lz.getD q (0, []) ∈ lz := by
        rw [List.getD_eq_getElem?_getD, List.getElem?_eq_getElem hq]
        exact List.getElem_mem hq
      obtain ⟨l1, nm1, e1, g1, g2, g3⟩ := c _ hm
      exact ⟨_, l1, nm1, hR.2.2.2.1 q hq, g1, g2.up g3⟩
theorem shown_none {rs : List (List Row)} {k i r : Int32} (hr : rs = []) (h : r = if k < 0 ∨ nI rs.length ≤ k then -1 else if i < 0 then -1 else (emz i (0, -1) (txt (rs.getD k.toNatClampNeg []))).2) : r = -1 := by
  rw [h]
  refine if_pos ?_
  by_cases hk : k < 0
  · exact Or.inl hk
  · refine Or.inr ?_
    rw [hr]
    exact Int32.not_lt.mp hk
/-! the start -/
theorem bld_start : Bld [] 16 (fun _ => 0) := ⟨Or.inl rfl, Nat.zero_le _, fun i hi => absurd hi (Nat.not_lt_zero _), fun j => (by decide : fits .byte (.int 0) = true), fun c hc => absurd hc List.not_mem_nil⟩
theorem drf_start {f : Nat → Int32} : Drf [] f := ⟨Nat.zero_le _, fun c hc => absurd hc List.not_mem_nil, fun i hi => absurd hi (Nat.not_lt_zero _)⟩
theorem rs_start {rf kf vf af lf xf nf : Nat → Int32} {uf : Nat → Int64} {pf : Nat → Int32} : RS (fun tr rws => TRE tr rws (fun _ => 0) kf vf af lf xf nf uf pf 0) (fun _ => none) (fun _ => none) [] rf :=
  ⟨fun i hi => ⟨rfl, by decide, TR.nil⟩, fun i hi => ⟨rfl, by decide, TR.nil⟩, Nat.zero_le _, fun q hq => absurd hq (Nat.not_lt_zero _), Or.inl rfl⟩
theorem dz_start {cB cO : ClassId} {em : Nat} {aK : Nat → Nat} {fz : va_W} : DZ cB cO em aK fz (fun _ => none) (fun _ => none) := fun i hi => Or.inl ⟨rfl, rfl⟩
theorem dbd_start {lim rm : Nat} : DBD lim rm (fun _ => none) := fun i hi w hw => by cases hw
theorem alz_start {cO : ClassId} {em fo : Nat} {fz : va_W} : ALz cO em ([(fo, Sum.inr (14, [Value.ref em, Value.int 0, Value.int 0]))] ++ fz) fo [] := ⟨Nat.zero_le _, 0, Or.inl ⟨rfl, List.mem_append_left _ (List.mem_singleton.mpr rfl)⟩⟩
theorem i_lim (a : Int32) : ∃ n, n ≤ 8 ∧ 1 + (a &&& 7) = nI n := by
  obtain ⟨j, hj, ej⟩ := pk_andE a (m := 7) 3 (by decide)
  exact ⟨1 + j, by omega, (congrArg (fun z => 1 + z) ej).trans (nI_add 1 j)⟩
theorem i_room (a : Int32) : ∃ n, n ≤ 32 ∧ 1 + (a &&& 31) = nI n := by
  obtain ⟨j, hj, ej⟩ := pk_andE a (m := 31) 5 (by decide)
  exact ⟨1 + j, by omega, (congrArg (fun z => 1 + z) ej).trans (nI_add 1 j)⟩
section LC
variable {D C : Nat → Option (List Row)} {lz : List Plc} {rf : Nat → Int32} {sf kf vf af lf xf nf : Nat → Int32} {uf : Nat → Int64} {pf : Nat → Int32} {pn : Nat}
theorem rs_d (h : RS (fun tr rws => TRE tr rws sf kf vf af lf xf nf uf pf pn) D C lz rf) {i : Nat} (hi : i < 3) : TRE i (rwD D i) sf kf vf af lf xf nf uf pf pn := (h.1 i hi).rows
theorem rs_c (h : RS (fun tr rws => TRE tr rws sf kf vf af lf xf nf uf pf pn) D C lz rf) {i : Nat} (hi : i < 3) : TRE (3 + i) (rwD C i) sf kf vf af lf xf nf uf pf pn := (h.2.1 i hi).rows
theorem law_commit (hR : RS (fun tr rws => TRE tr rws sf kf vf af lf xf nf uf pf pn) D C lz rf) {n0 n1 n2 : Nat} (e0 : (rwD D 0).length = n0) (e1 : (rwD D 1).length = n1) (e2 : (rwD D 2).length = n2) (T9 : Nat → List Row → Prop) (hT : T9 = fun tr rws => TRE tr rws (upd (upd (upd sf 3 (nI n0)) 4 (nI n1)) 5 (nI n2)) (va_cpy (va_cpy (va_cpy kf kf (bsK 0) (bsK 3) n0) (va_cpy kf kf (bsK 0) (bsK 3) n0) (bsK 1) (bsK 4) n1) (va_cpy (va_cpy kf kf (bsK 0) (bsK 3) n0) (va_cpy kf kf (bsK 0) (bsK 3) n0) (bsK 1) (bsK 4) n1) (bsK 2) (bsK 5) n2) (va_cpy (va_cpy (va_cpy vf vf (bsK 0) (bsK 3) n0) (va_cpy vf vf (bsK 0) (bsK 3) n0) (bsK 1) (bsK 4) n1) (va_cpy (va_cpy vf vf (bsK 0) (bsK 3) n0) (va_cpy vf vf (bsK 0) (bsK 3) n0) (bsK 1) (bsK 4) n1) (bsK 2) (bsK 5) n2) (va_cpy (va_cpy (va_cpy af af (bsK 0) (bsK 3) n0) (va_cpy af af (bsK 0) (bsK 3) n0) (bsK 1) (bsK 4) n1) (va_cpy (va_cpy af af (bsK 0) (bsK 3) n0) (va_cpy af af (bsK 0) (bsK 3) n0) (bsK 1) (bsK 4) n1) (bsK 2) (bsK 5) n2) (va_cpy (va_cpy (va_cpy lf lf (bsK 0) (bsK 3) n0) (va_cpy lf lf (bsK 0) (bsK 3) n0) (bsK 1) (bsK 4) n1) (va_cpy (va_cpy lf lf (bsK 0) (bsK 3) n0) (va_cpy lf lf (bsK 0) (bsK 3) n0) (bsK 1) (bsK 4) n1) (bsK 2) (bsK 5) n2) (va_cpy (va_cpy (va_cpy xf xf (bsK 0) (bsK 3) n0) (va_cpy xf xf (bsK 0) (bsK 3) n0) (bsK 1) (bsK 4) n1) (va_cpy (va_cpy xf xf (bsK 0) (bsK 3) n0) (va_cpy xf xf (bsK 0) (bsK 3) n0) (bsK 1) (bsK 4) n1) (bsK 2) (bsK 5) n2) (va_cpy (va_cpy (va_cpy nf nf (bsK 0) (bsK 3) n0) (va_cpy nf nf (bsK 0) (bsK 3) n0) (bsK 1) (bsK 4) n1) (va_cpy (va_cpy nf nf (bsK 0) (bsK 3) n0) (va_cpy nf nf (bsK 0) (bsK 3) n0) (bsK 1) (bsK 4) n1) (bsK 2) (bsK 5) n2) (va_cpy (va_cpy (va_cpy uf uf (bsK 0) (bsK 3) n0) (va_cpy uf uf (bsK 0) (bsK 3) n0) (bsK 1) (bsK 4) n1) (va_cpy (va_cpy uf uf (bsK 0) (bsK 3) n0) (va_cpy uf uf (bsK 0) (bsK 3) n0) (bsK 1) (bsK 4) n1) (bsK 2) (bsK 5) n2) pf pn) : RS T9 D D lz rf := by
  obtain ⟨t0, t1, t2, hk⟩ := trees3 (s0 := 0) (s1 := 1) (s2 := 2) (d0 := 3) (d1 := 4) (d2 := 5) (rs_d hR (i := 0) (by decide)) (rs_d hR (i := 1) (by decide)) (rs_d hR (i := 2) (by decide)) e0 e1 e2 (by decide) (by decide) rfl rfl rfl rfl rfl rfl rfl rfl rfl rfl rfl rfl rfl rfl T9 hT
  exact hR.commit t0 t1 t2 hk
theorem law_crash (hR : RS (fun tr rws => TRE tr rws sf kf vf af lf xf nf uf pf pn) D C lz rf) {n0 n1 n2 : Nat} (e0 : (rwD C 0).length = n0) (e1 : (rwD C 1).length = n1) (e2 : (rwD C 2).length = n2) (T9 : Nat → List Row → Prop) (hT : T9 = fun tr rws => TRE tr rws (upd (upd (upd sf 0 (nI n0)) 1 (nI n1)) 2 (nI n2)) (va_cpy (va_cpy (va_cpy kf kf (bsK 3) (bsK 0) n0) (va_cpy kf kf (bsK 3) (bsK 0) n0) (bsK 4) (bsK 1) n1) (va_cpy (va_cpy kf kf (bsK 3) (bsK 0) n0) (va_cpy kf kf (bsK 3) (bsK 0) n0) (bsK 4) (bsK 1) n1) (bsK 5) (bsK 2) n2) (va_cpy (va_cpy (va_cpy vf vf (bsK 3) (bsK 0) n0) (va_cpy vf vf (bsK 3) (bsK 0) n0) (bsK 4) (bsK 1) n1) (va_cpy (va_cpy vf vf (bsK 3) (bsK 0) n0) (va_cpy vf vf (bsK 3) (bsK 0) n0) (bsK 4) (bsK 1) n1) (bsK 5) (bsK 2) n2) (va_cpy (va_cpy (va_cpy af af (bsK 3) (bsK 0) n0) (va_cpy af af (bsK 3) (bsK 0) n0) (bsK 4) (bsK 1) n1) (va_cpy (va_cpy af af (bsK 3) (bsK 0) n0) (va_cpy af af (bsK 3) (bsK 0) n0) (bsK 4) (bsK 1) n1) (bsK 5) (bsK 2) n2) (va_cpy (va_cpy (va_cpy lf lf (bsK 3) (bsK 0) n0) (va_cpy lf lf (bsK 3) (bsK 0) n0) (bsK 4) (bsK 1) n1) (va_cpy (va_cpy lf lf (bsK 3) (bsK 0) n0) (va_cpy lf lf (bsK 3) (bsK 0) n0) (bsK 4) (bsK 1) n1) (bsK 5) (bsK 2) n2) (va_cpy (va_cpy (va_cpy xf xf (bsK 3) (bsK 0) n0) (va_cpy xf xf (bsK 3) (bsK 0) n0) (bsK 4) (bsK 1) n1) (va_cpy (va_cpy xf xf (bsK 3) (bsK 0) n0) (va_cpy xf xf (bsK 3) (bsK 0) n0) (bsK 4) (bsK 1) n1) (bsK 5) (bsK 2) n2) (va_cpy (va_cpy (va_cpy nf nf (bsK 3) (bsK 0) n0) (va_cpy nf nf (bsK 3) (bsK 0) n0) (bsK 4) (bsK 1) n1) (va_cpy (va_cpy nf nf (bsK 3) (bsK 0) n0) (va_cpy nf nf (bsK 3) (bsK 0) n0) (bsK 4) (bsK 1) n1) (bsK 5) (bsK 2) n2) (va_cpy (va_cpy (va_cpy uf uf (bsK 3) (bsK 0) n0) (va_cpy uf uf (bsK 3) (bsK 0) n0) (bsK 4) (bsK 1) n1) (va_cpy (va_cpy uf uf (bsK 3) (bsK 0) n0) (va_cpy uf uf (bsK 3) (bsK 0) n0) (bsK 4) (bsK 1) n1) (bsK 5) (bsK 2) n2) pf pn) : RS T9 C C [] rf := by
  obtain ⟨t0, t1, t2, hk⟩ := trees3 (s0 := 3) (s1 := 4) (s2 := 5) (d0 := 0) (d1 := 1) (d2 := 2) (rs_c hR (i := 0) (by decide)) (rs_c hR (i := 1) (by decide)) (rs_c hR (i := 2) (by decide)) e0 e1 e2 (by decide) (by decide) rfl rfl rfl rfl rfl rfl rfl rfl rfl rfl rfl rfl rfl rfl T9 hT
  exact hR.crash t0 t1 t2 hk
end LC
theorem lw_cmp {L i : Nat} (hL : L ≤ 1538) (hi : i ≤ 5000) (h : ¬ nI L - 3 < nI i) : i + 3 ≤ L := by
  by_cases h3 : 3 ≤ L
  · obtain ⟨n, rfl⟩ : ∃ n, L = 3 + n := ⟨L - 3, by omega⟩
    have e : nI (3 + n) - 3 = nI n := nI_subb (b := 3) (x := n)
    rw [e] at h
    have := mt (nI_ltI (a := n) (b := i) (by omega) (by omega)).mpr h
    omega
  · exfalso
    apply h
    rw [Int32.lt_iff_toInt_lt, nI_toInt (n := i) (by omega)]
    rcases (show L = 0 ∨ L = 1 ∨ L = 2 by omega) with rfl | rfl | rfl
    · rw [show (nI 0 - 3).toInt = -3 by decide]; omega
    · rw [show (nI 1 - 3).toInt = -2 by decide]; omega
    · rw [show (nI 2 - 3).toInt = -1 by decide]; omega
theorem al_mono {α : Type} {a b : List α} : ∀ q ∈ b, q ∈ a ++ b := fun q hq => List.mem_append_right _ hq
set_option maxHeartbeats 1000000 in
set_option maxRecDepth 100000 in
/-- crash() -/
theorem k_PS_crash2 (l : Launch) (dC : Nat → ClassId) (dI : Nat → Nat → Nat) (sz : Nat) (x : Nat) (lim : Nat) (rm : Nat) (dl : Nat) (sb : Nat) (dc : Nat) (cm : Nat) (fo : Nat) (n : Nat) (cV : ClassId) (h : Nat → Option Nat) (hc : Nat → Option Nat) (D : Nat → Option (List Row)) (cB : ClassId) (cO : ClassId) (em : Nat) (aK : Nat → Nat) (aV : Nat → Nat) (fz : va_W) (hdoc : ∀ i, i < 3 → DOCz cB cO em aK fz (hc i) (D i)) : Met l y_PS_crash ws_PS_crash ({ frames := 4, cells := 1, slots := 3, locals := 72 }) (va_Pc [.ref x] (fun U => U.heap.size = sz ∧ va_P (dC, dI) vwCl ([(x, .inr (0, [.int (nI lim), .int (nI rm), .ref dl, .int (nI n), .ref sb, .ref dc, .ref cm, .ref fo])), (dc, .inl (cV, 3, .inr (.inr (.inr (.inr h))))), (cm, .inl (cV, 3, .inr (.inr (.inr (.inr hc)))))] ++ fz) U.heap ∧ va_K (dC, dI) vwCl [(cV, .object "PatchStore$Value")] U ∧ va_D (fun _ => True) ([(x, .inr (0, [.int (nI lim), .int (nI rm), .ref dl, .int (nI n), .ref sb, .ref dc, .ref cm, .ref fo])), (dc, .inl (cV, 3, .inr (.inr (.inr (.inr h))))), (cm, .inl (cV, 3, .inr (.inr (.inr (.inr hc)))))] ++ fz) ∧ EX em aK aV (va_A ([(x, .inr (0, [.int (nI lim), .int (nI rm), .ref dl, .int (nI n), .ref sb, .ref dc, .ref cm, .ref fo])), (dc, .inl (cV, 3, .inr (.inr (.inr (.inr h))))), (cm, .inl (cV, 3, .inr (.inr (.inr (.inr hc)))))] ++ fz) sz) U U.heap)) (va_Qv (fun (u : (Nat → Option Nat) × va_W × Nat) => (∀ i, i < 3 → u.1 i = hc i) ∧ u.2.1 = [(u.2.2, Sum.inr (14, [Value.ref em, Value.int 0, Value.int 0]))]) (fun u t => va_P (dC, dI) vwCl ([(x, .inr (0, [.int (nI lim), .int (nI rm), .ref dl, .int 0, .ref sb, .ref dc, .ref cm, .ref u.2.2])), (dc, .inl (cV, 3, .inr (.inr (.inr (.inr u.1))))), (cm, .inl (cV, 3, .inr (.inr (.inr (.inr hc)))))] ++ (u.2.1 ++ fz)) t.heap ∧ va_K (dC, dI) vwCl [(cV, .object "PatchStore$Value")] t ∧ va_D (va_A ([(x, .inr (0, [.int (nI lim), .int (nI rm), .ref dl, .int (nI n), .ref sb, .ref dc, .ref cm, .ref fo])), (dc, .inl (cV, 3, .inr (.inr (.inr (.inr h))))), (cm, .inl (cV, 3, .inr (.inr (.inr (.inr hc)))))] ++ fz) sz) ([(x, .inr (0, [.int (nI lim), .int (nI rm), .ref dl, .int 0, .ref sb, .ref dc, .ref cm, .ref u.2.2])), (dc, .inl (cV, 3, .inr (.inr (.inr (.inr u.1))))), (cm, .inl (cV, 3, .inr (.inr (.inr (.inr hc)))))] ++ (u.2.1 ++ fz))) (va_A ([(x, .inr (0, [.int (nI lim), .int (nI rm), .ref dl, .int (nI n), .ref sb, .ref dc, .ref cm, .ref fo])), (dc, .inl (cV, 3, .inr (.inr (.inr (.inr h))))), (cm, .inl (cV, 3, .inr (.inr (.inr (.inr hc)))))] ++ fz) sz)) 1 3 (va_A ([(x, .inr (0, [.int (nI lim), .int (nI rm), .ref dl, .int (nI n), .ref sb, .ref dc, .ref cm, .ref fo])), (dc, .inl (cV, 3, .inr (.inr (.inr (.inr h))))), (cm, .inl (cV, 3, .inr (.inr (.inr (.inr hc)))))] ++ fz) sz) := by
  refine Met.ofW (cc := c_PS_crash) (maxL := 2) (ret := none) (by decide) rfl ?_
  intro p e s m args below meth c s₁ B hml hv
  obtain ⟨hargs, hsz, hP, hK, hD0, hE⟩ := hv
  rw [show entryFrame m args 2 = entryFrame m ([.ref x]).toArray 2 by rw [hargs]]
  have hx := B.exec
  have hb := B.bytes
  have hr := B.returns
  have hts := atoms_spec (ws := ws_PS_crash) B.pre
  have htb := fun w (h : w ∈ TBL) => hts w (List.mem_cons_of_mem _ h)
  have hown : s.vm.findClass R_PS = some m.cls := findClass_of_methodNamed B.named
  have hlocks := B.notSynchronized
  subst hsz
  have hD := hD0.self (sz := s.heap.size)
  generalize hAe : va_A ([(x, .inr (0, [.int (nI lim), .int (nI rm), .ref dl, .int (nI n), .ref sb, .ref dc, .ref cm, .ref fo])), (dc, .inl (cV, 3, .inr (.inr (.inr (.inr h))))), (cm, .inl (cV, 3, .inr (.inr (.inr (.inr hc)))))] ++ fz) s.heap.size = A at hD hE ⊢
  have hA : ∀ q : Nat, s.heap.size ≤ q → A q := fun q h => by rw [← hAe]; exact Or.inr h
  have hS : va_S A s.heap s.heap [] := va_S.rf
  have hP : va_P (dC, dI) vwCl ([(x, .inr (0, [.int (nI lim), .int (nI rm), .ref dl, .int (nI n), .ref sb, .ref dc, .ref cm, .ref fo])), (dc, .inl (cV, 3, .inr (.inr (.inr (.inr h))))), (cm, .inl (cV, 3, .inr (.inr (.inr (.inr hc)))))] ++ fz) s.heap := hP
  have hl := lv_entry ([.ref x]) (n := 2) (Nat.le_of_ble_eq_true rfl)
  rw [lg_entry_eq]
  generalize (lg_sl ([.ref x]) ++ List.replicate (2 - (lg_sl ([.ref x])).length) Slot.unset).toArray = ls at hl ⊢
  have hl : lv_has ls 2 [(0, .ref x)] := hl
  refine zz_nQ (fun Q hQ => ?_)
  refine lv_iconst (v := 0) hx hb d_PS_crash_0 (by decide) ?_
  refine lv_istore_n hx hb d_PS_crash_1 rfl hl (by decide) rfl (fun ls hl => ?_)
  have hl : lv_has ls 2 [(1, .int 0), (0, .ref x)] := hl
  have hloop : ∀ (k9 : Nat) (i : Nat) (f9 : Nat → Option Nat) (H : Heap) (locs : List Loc) (ls : Array Slot), 3 - i = k9 → (i ≤ 3) → (∀ j, j < i → f9 j = hc j) → lv_has ls 2 [(1, .int (nI i)), (0, .ref x)] → va_P (dC, dI) vwCl ([(x, .inr (0, [.int (nI lim), .int (nI rm), .ref dl, .int (nI n), .ref sb, .ref dc, .ref cm, .ref fo])), (dc, .inl (cV, 3, .inr (.inr (.inr (.inr f9))))), (cm, .inl (cV, 3, .inr (.inr (.inr (.inr hc)))))] ++ fz) H → va_D A ([(x, .inr (0, [.int (nI lim), .int (nI rm), .ref dl, .int (nI n), .ref sb, .ref dc, .ref cm, .ref fo])), (dc, .inl (cV, 3, .inr (.inr (.inr (.inr f9))))), (cm, .inl (cV, 3, .inr (.inr (.inr (.inr hc)))))] ++ fz) → va_S A s.heap H locs → W p l e (headSpec ws_PS_crash ({ frames := 4, cells := 1, slots := 3, locals := 72 })).room s m args below meth c H locs 0 0 Q (F0 m 2 ls []) := by
    intro k9
    induction k9 using Nat.strongRecOn with
    | ind k9 ih =>
      intro i f9 H locs ls hk9 hi1 hi2 hl hP hD hS
      refine lv_iload_n hx hb d_PS_crash_2 rfl (lv_at hl 0 rfl) ?_
      refine lv_iconst (v := 3) hx hb d_PS_crash_3 (by decide) ?_
      refine lv_icmp_ge (tgt := 25) hx hb d_PS_crash_4 rfl (fun h1 => ?_) (fun h1 => ?_)
      · have h1 : 3 ≤ i := (nI_leI (by decide) (by omega)).mp h1
        refine lv_aload_n hx hb d_PS_crash_25 rfl (lv_at hl 1 rfl) ?_
        refine lv_iconst (v := 0) hx hb d_PS_crash_26 (by decide) ?_
        refine va_put (D := (dC, dI)) (ci := 0) (v := .int 0) (ty := .int) (C := R_PS) (T := T_PS) (N := 8) hx hb htb in_PS ty_PS ty_PS_ok nm_PS hown hK hP hD hS 0 rfl rfl 3 (by decide) (htb _ m_102) (fun _ h9 => h9) rfl (by decide +kernel) rfl rfl (Nat.le_of_ble_eq_true rfl) d_PS_crash_27 (fun H locs hP hD hS => ?_)
        have hP : va_P (dC, dI) vwCl ([(x, .inr (0, [.int (nI lim), .int (nI rm), .ref dl, .int 0, .ref sb, .ref dc, .ref cm, .ref fo])), (dc, .inl (cV, 3, .inr (.inr (.inr (.inr f9))))), (cm, .inl (cV, 3, .inr (.inr (.inr (.inr hc)))))] ++ fz) H := hP
        have hD : va_D A ([(x, .inr (0, [.int (nI lim), .int (nI rm), .ref dl, .int 0, .ref sb, .ref dc, .ref cm, .ref fo])), (dc, .inl (cV, 3, .inr (.inr (.inr (.inr f9))))), (cm, .inl (cV, 3, .inr (.inr (.inr (.inr hc)))))] ++ fz) := hD
        refine lv_aload_n hx hb d_PS_crash_30 rfl (lv_at hl 1 rfl) ?_
        refine va_new (ci := 14) (fs := [.null, .int 0, .int 0]) (C := R_AL) (T := T_AL) (N := 3) hx hb htb in_AL ty_AL ty_AL_ok hown (htb _ m_73) (htb _ m_74) (htb _ m_8) hK hP hD hS hA rfl (fun j hj => by rcases (show j = 0 ∨ j = 1 ∨ j = 2 by omega) with rfl | rfl | rfl <;> rfl) (Nat.le_of_ble_eq_true rfl) (Nat.le_of_ble_eq_true rfl) d_PS_crash_31 (fun fl H hP hD hS => ?_)
        have hP := zz_rotP (pre := [(x, .inr (0, [.int (nI lim), .int (nI rm), .ref dl, .int 0, .ref sb, .ref dc, .ref cm, .ref fo])), (dc, .inl (cV, 3, .inr (.inr (.inr (.inr f9))))), (cm, .inl (cV, 3, .inr (.inr (.inr (.inr hc)))))]) (fz := fz) hP
        have hD := zz_rotD (pre := [(x, .inr (0, [.int (nI lim), .int (nI rm), .ref dl, .int 0, .ref sb, .ref dc, .ref cm, .ref fo])), (dc, .inl (cV, 3, .inr (.inr (.inr (.inr f9))))), (cm, .inl (cV, 3, .inr (.inr (.inr (.inr hc)))))]) (fz := fz) hD
        have hP : va_P (dC, dI) vwCl ([(x, .inr (0, [.int (nI lim), .int (nI rm), .ref dl, .int 0, .ref sb, .ref dc, .ref cm, .ref fo])), (dc, .inl (cV, 3, .inr (.inr (.inr (.inr f9))))), (cm, .inl (cV, 3, .inr (.inr (.inr (.inr hc))))), (fl, .inr (14, [.null, .int 0, .int 0]))] ++ fz) H := hP
        have hD : va_D A ([(x, .inr (0, [.int (nI lim), .int (nI rm), .ref dl, .int 0, .ref sb, .ref dc, .ref cm, .ref fo])), (dc, .inl (cV, 3, .inr (.inr (.inr (.inr f9))))), (cm, .inl (cV, 3, .inr (.inr (.inr (.inr hc))))), (fl, .inr (14, [.null, .int 0, .int 0]))] ++ fz) := hD
        refine W.widen (k := 1) (n := 3) (Nat.le_of_ble_eq_true rfl) (Nat.le_of_ble_eq_true rfl) ?_
        refine lv_dup hx hb d_PS_crash_34 rfl ?_
        have hPc := hP.sub (ws' := [(fl, .inr (14, [.null, .int 0, .int 0]))]) [3] rfl
        have hDc := hD.sub (ws' := [(fl, .inr (14, [.null, .int 0, .int 0]))]) [3] (by decide) rfl
        have hFc := va_free (wc := [(fl, .inr (14, [.null, .int 0, .int 0]))]) hD hS hA [3] rfl
        have hKc := hK.sub (tys' := []) [] rfl
        refine va_callv (va_runI (As := []) (rest := [.ref fl, .ref x]) ⟨hx, hb, hml, hown, htb⟩ (k_AL_init l dC dI _ fl em aK aV ) (cwI 0 htb (g_all (fun _ h => h) m_77) rfl rfl rfl (htb _ m_8) (htb _ m_75) (htb _ m_76) rfl (by decide +kernel) ⟨Nat.le_of_ble_eq_true rfl, Nat.le_of_ble_eq_true rfl⟩) ⟨fun a U g mk q => by obtain ⟨q0, q1, qP, qK, qD, z0⟩ := q; exact ⟨q0, q1, qP, va_K.moved (u := U) (U := U.calling g mk a) (Vm.Alike.refl U.vm) qK, qD, EX.same (U := U) (U' := U.calling g mk a) rfl z0⟩, fun U hU hW => ⟨rfl, by rw [hU], by rw [hU]; exact hPc, va_K.moved hW.alike hKc, hDc.weaken (fun _ _ _ _ => trivial), by rw [hU]; exact EX.warm hW ((hE.kept (fun a h1 h2 => hS.2.1 a h1 h2)).narrow hFc)⟩⟩ rfl rfl hl.1 rfl (lv_room (Nat.le_of_ble_eq_true rfl)) d_PS_crash_35 ⟨Nat.le_of_ble_eq_true rfl, Nat.le_of_ble_eq_true rfl⟩) hS (fun q _ h => hFc q h) hFc (fun u1 t H1 locs ht hvm hw3 hB hz1 hk1 hS => ?_)
        obtain ⟨hP1, hK1, hD1⟩ := hB
        rw [ht] at hP1
        have hK1 := va_K.moved hvm.symm hK1
        have hw3 : True := hw3
        obtain ⟨hP, hD⟩ := zz_joinN (pre := [(x, .inr (0, [.int (nI lim), .int (nI rm), .ref dl, .int 0, .ref sb, .ref dc, .ref cm, .ref fo])), (dc, .inl (cV, 3, .inr (.inr (.inr (.inr f9))))), (cm, .inl (cV, 3, .inr (.inr (.inr (.inr hc))))), (fl, .inr (14, [.null, .int 0, .int 0]))]) (fz := fz) (wc := [(fl, .inr (14, [.null, .int 0, .int 0]))]) (wr := [(x, .inr (0, [.int (nI lim), .int (nI rm), .ref dl, .int 0, .ref sb, .ref dc, .ref cm, .ref fo])), (dc, .inl (cV, 3, .inr (.inr (.inr (.inr f9))))), (cm, .inl (cV, 3, .inr (.inr (.inr (.inr hc)))))]) (w1 := [(fl, .inr (14, [.ref em, .int 0, .int 0]))]) hP hD [3] [0, 1, 2] rfl rfl (by decide) (by decide) hk1 hFc hP1 hD1
        have hK := (hK.sub (tys' := [(cV, .object "PatchStore$Value")]) [0] rfl).app hK1
        generalize H1 = H at hP hS ⊢
        have hP : va_P (dC, dI) vwCl ([(x, .inr (0, [.int (nI lim), .int (nI rm), .ref dl, .int 0, .ref sb, .ref dc, .ref cm, .ref fo])), (dc, .inl (cV, 3, .inr (.inr (.inr (.inr f9))))), (cm, .inl (cV, 3, .inr (.inr (.inr (.inr hc))))), (fl, .inr (14, [.ref em, .int 0, .int 0]))] ++ fz) H := hP
        have hD : va_D A ([(x, .inr (0, [.int (nI lim), .int (nI rm), .ref dl, .int 0, .ref sb, .ref dc, .ref cm, .ref fo])), (dc, .inl (cV, 3, .inr (.inr (.inr (.inr f9))))), (cm, .inl (cV, 3, .inr (.inr (.inr (.inr hc))))), (fl, .inr (14, [.ref em, .int 0, .int 0]))] ++ fz) := hD
        have hK : va_K (dC, dI) vwCl [(cV, .object "PatchStore$Value")] s := hK
        refine va_put (D := (dC, dI)) (ci := 0) (v := .ref fl) (ty := (.object "java/util/ArrayList")) (C := R_PS) (T := T_PS) (N := 8) hx hb htb in_PS ty_PS ty_PS_ok nm_PS hown hK hP hD hS 0 rfl rfl 7 (by decide) (htb _ m_106) (fun _ h9 => h9) rfl (by decide +kernel) rfl rfl (Nat.le_of_ble_eq_true rfl) d_PS_crash_38 (fun H locs hP hD hS => ?_)
        have hP : va_P (dC, dI) vwCl ([(x, .inr (0, [.int (nI lim), .int (nI rm), .ref dl, .int 0, .ref sb, .ref dc, .ref cm, .ref fl])), (dc, .inl (cV, 3, .inr (.inr (.inr (.inr f9))))), (cm, .inl (cV, 3, .inr (.inr (.inr (.inr hc))))), (fl, .inr (14, [.ref em, .int 0, .int 0]))] ++ fz) H := hP
        have hD : va_D A ([(x, .inr (0, [.int (nI lim), .int (nI rm), .ref dl, .int 0, .ref sb, .ref dc, .ref cm, .ref fl])), (dc, .inl (cV, 3, .inr (.inr (.inr (.inr f9))))), (cm, .inl (cV, 3, .inr (.inr (.inr (.inr hc))))), (fl, .inr (14, [.ref em, .int 0, .int 0]))] ++ fz) := hD
        have hP9 := zz_pickP (pre := [(x, .inr (0, [.int (nI lim), .int (nI rm), .ref dl, .int 0, .ref sb, .ref dc, .ref cm, .ref fl])), (dc, .inl (cV, 3, .inr (.inr (.inr (.inr f9))))), (cm, .inl (cV, 3, .inr (.inr (.inr (.inr hc))))), (fl, .inr (14, [.ref em, .int 0, .int 0]))]) (fz := fz) (wc := [(x, .inr (0, [.int (nI lim), .int (nI rm), .ref dl, .int 0, .ref sb, .ref dc, .ref cm, .ref fl])), (dc, .inl (cV, 3, .inr (.inr (.inr (.inr f9))))), (cm, .inl (cV, 3, .inr (.inr (.inr (.inr hc))))), (fl, .inr (14, [.ref em, .int 0, .int 0]))]) hP [0, 1, 2, 3] rfl
        have hD9 := zz_pickD (pre := [(x, .inr (0, [.int (nI lim), .int (nI rm), .ref dl, .int 0, .ref sb, .ref dc, .ref cm, .ref fl])), (dc, .inl (cV, 3, .inr (.inr (.inr (.inr f9))))), (cm, .inl (cV, 3, .inr (.inr (.inr (.inr hc))))), (fl, .inr (14, [.ref em, .int 0, .int 0]))]) (fz := fz) (wc := [(x, .inr (0, [.int (nI lim), .int (nI rm), .ref dl, .int 0, .ref sb, .ref dc, .ref cm, .ref fl])), (dc, .inl (cV, 3, .inr (.inr (.inr (.inr f9))))), (cm, .inl (cV, 3, .inr (.inr (.inr (.inr hc))))), (fl, .inr (14, [.ref em, .int 0, .int 0]))]) hD [0, 1, 2, 3] (by decide) rfl
        have hK9 := hK.sub (tys' := [(cV, .object "PatchStore$Value")]) [0] rfl
        rw [hQ]
        refine W.widen (k := 1) (n := 3) (Nat.le_of_ble_eq_true rfl) (Nat.le_of_ble_eq_true rfl) ?_
        exact W.vret hx hb hr (fun t ht hW => ⟨⟨(f9, [(fl, .inr (14, [.ref em, .int 0, .int 0]))], fl), rfl, ⟨fun j hj => hi2 j (by omega), rfl⟩, ⟨by rw [ht]; exact hP9, va_K.moved hW.alike hK9, hD9⟩⟩, hS.F ht⟩) hS.2.2 d_PS_crash_41
      · have h1 : i < 3 := Nat.not_le.mp (fun h => h1 ((nI_leI (by decide) (by omega)).mpr h))
        refine lv_aload_n hx hb d_PS_crash_7 rfl (lv_at hl 1 rfl) ?_
        refine va_get (D := (dC, dI)) (ci := 0) (v := .ref dc) (C := R_PS) (T := T_PS) (N := 8) hx hb htb in_PS hown hK hP 0 rfl rfl 5 (by decide) (htb _ m_104) (fun _ h9 => h9) rfl d_PS_crash_8 ?_
        refine lv_iload_n hx hb d_PS_crash_11 rfl (lv_at hl 0 rfl) ?_
        refine lv_aload_n hx hb d_PS_crash_12 rfl (lv_at hl 1 rfl) ?_
        refine va_get (D := (dC, dI)) (ci := 0) (v := .ref cm) (C := R_PS) (T := T_PS) (N := 8) hx hb htb in_PS hown hK hP 0 rfl rfl 6 (by decide) (htb _ m_105) (fun _ h9 => h9) rfl d_PS_crash_13 ?_
        refine lv_iload_n hx hb d_PS_crash_16 rfl (lv_at hl 0 rfl) ?_
        refine va_aldq hx hb hK hP 2 0 rfl rfl (vp_in_nI h1 (by decide)) d_PS_crash_17 ?_
        refine W.eq (congrArg (fun z99 => F0 m 18 ls (va_rf (hc z99) :: [.int (nI i), .ref dc])) (nI_clamp (by omega) : (nI i).toNatClampNeg = i)) ?_
        rcases hdoc i h1 with ⟨hso, -⟩ | ⟨a9, n9, w9, hso, -, hv9⟩
        · rw [hso]
          refine W.eq (g2 := F0 m 18 ls [.null, .int (nI i), .ref dc]) rfl ?_
          refine va_astqN hx hb hK hP hD hS 1 0 rfl rfl (vp_in_nI h1 (by decide)) d_PS_crash_18 (fun H locs hP hD hS => ?_)
          have hP : va_P (dC, dI) vwCl ([(x, .inr (0, [.int (nI lim), .int (nI rm), .ref dl, .int (nI n), .ref sb, .ref dc, .ref cm, .ref fo])), (dc, .inl (cV, 3, .inr (.inr (.inr (.inr (va_up f9 (nI i).toNatClampNeg none)))))), (cm, .inl (cV, 3, .inr (.inr (.inr (.inr hc)))))] ++ fz) H := hP
          have hD : va_D A ([(x, .inr (0, [.int (nI lim), .int (nI rm), .ref dl, .int (nI n), .ref sb, .ref dc, .ref cm, .ref fo])), (dc, .inl (cV, 3, .inr (.inr (.inr (.inr (va_up f9 (nI i).toNatClampNeg none)))))), (cm, .inl (cV, 3, .inr (.inr (.inr (.inr hc)))))] ++ fz) := hD
          rw [show (nI i).toNatClampNeg = i from nI_clamp (by omega)] at hP hD
          have hP : va_P (dC, dI) vwCl ([(x, .inr (0, [.int (nI lim), .int (nI rm), .ref dl, .int (nI n), .ref sb, .ref dc, .ref cm, .ref fo])), (dc, .inl (cV, 3, .inr (.inr (.inr (.inr (va_up f9 i none)))))), (cm, .inl (cV, 3, .inr (.inr (.inr (.inr hc)))))] ++ fz) H := hP
          have hD : va_D A ([(x, .inr (0, [.int (nI lim), .int (nI rm), .ref dl, .int (nI n), .ref sb, .ref dc, .ref cm, .ref fo])), (dc, .inl (cV, 3, .inr (.inr (.inr (.inr (va_up f9 i none)))))), (cm, .inl (cV, 3, .inr (.inr (.inr (.inr hc)))))] ++ fz) := hD
          refine lv_iinc (k := 0) (v := ((nI i) + Int32.ofInt 1)) hx hb d_PS_crash_19 hl rfl rfl (by decide) rfl (fun ls hl => ?_)
          have hl : lv_has ls 2 [(1, .int ((nI i) + Int32.ofInt 1)), (0, .ref x)] := hl
          rw [show nI i + Int32.ofInt 1 = nI (i + 1) from nI_1 _] at hl
          refine lv_goto (tgt := 2) hx hb d_PS_crash_22 rfl ?_
          exact ih (3 - (i + 1)) (by omega) (i + 1) (va_up f9 i none) H locs ls rfl (by omega) (fun j hj => by by_cases hji : j = i; subst hji; simp [va_up, hso]; simp only [va_up, if_neg hji]; exact hi2 j (by omega)) (lv_sub hl [0, 1] rfl) (zz_pickP (pre := [(x, .inr (0, [.int (nI lim), .int (nI rm), .ref dl, .int (nI n), .ref sb, .ref dc, .ref cm, .ref fo])), (dc, .inl (cV, 3, .inr (.inr (.inr (.inr (va_up f9 i none)))))), (cm, .inl (cV, 3, .inr (.inr (.inr (.inr hc)))))]) (fz := fz) (wc := [(x, .inr (0, [.int (nI lim), .int (nI rm), .ref dl, .int (nI n), .ref sb, .ref dc, .ref cm, .ref fo])), (dc, .inl (cV, 3, .inr (.inr (.inr (.inr (va_up f9 i none)))))), (cm, .inl (cV, 3, .inr (.inr (.inr (.inr hc)))))]) hP [0, 1, 2] rfl) (zz_pickD (pre := [(x, .inr (0, [.int (nI lim), .int (nI rm), .ref dl, .int (nI n), .ref sb, .ref dc, .ref cm, .ref fo])), (dc, .inl (cV, 3, .inr (.inr (.inr (.inr (va_up f9 i none)))))), (cm, .inl (cV, 3, .inr (.inr (.inr (.inr hc)))))]) (fz := fz) (wc := [(x, .inr (0, [.int (nI lim), .int (nI rm), .ref dl, .int (nI n), .ref sb, .ref dc, .ref cm, .ref fo])), (dc, .inl (cV, 3, .inr (.inr (.inr (.inr (va_up f9 i none)))))), (cm, .inl (cV, 3, .inr (.inr (.inr (.inr hc)))))]) hD [0, 1, 2] (by decide) rfl) hS
        · rw [hso]
          refine W.eq (g2 := F0 m 18 ls [.ref a9, .int (nI i), .ref dc]) rfl ?_
          refine va_astqM hx hb hK hP hD hS 1 0 rfl rfl (zz_anyV hE hK hP (hv9.vin.app _)) (vp_in_nI h1 (by decide)) d_PS_crash_18 (fun H locs hP hD hS => ?_)
          rw [show (nI i).toNatClampNeg = i from nI_clamp (by omega)] at hP hD
          have hP : va_P (dC, dI) vwCl ([(x, .inr (0, [.int (nI lim), .int (nI rm), .ref dl, .int (nI n), .ref sb, .ref dc, .ref cm, .ref fo])), (dc, .inl (cV, 3, .inr (.inr (.inr (.inr (va_up f9 i (some a9))))))), (cm, .inl (cV, 3, .inr (.inr (.inr (.inr hc)))))] ++ fz) H := hP
          have hD : va_D A ([(x, .inr (0, [.int (nI lim), .int (nI rm), .ref dl, .int (nI n), .ref sb, .ref dc, .ref cm, .ref fo])), (dc, .inl (cV, 3, .inr (.inr (.inr (.inr (va_up f9 i (some a9))))))), (cm, .inl (cV, 3, .inr (.inr (.inr (.inr hc)))))] ++ fz) := hD
          refine lv_iinc (k := 0) (v := ((nI i) + Int32.ofInt 1)) hx hb d_PS_crash_19 hl rfl rfl (by decide) rfl (fun ls hl => ?_)
          have hl : lv_has ls 2 [(1, .int ((nI i) + Int32.ofInt 1)), (0, .ref x)] := hl
          rw [show nI i + Int32.ofInt 1 = nI (i + 1) from nI_1 _] at hl
          refine lv_goto (tgt := 2) hx hb d_PS_crash_22 rfl ?_
          exact ih (3 - (i + 1)) (by omega) (i + 1) (va_up f9 i (some a9)) H locs ls rfl (by omega) (fun j hj => by by_cases hji : j = i; subst hji; simp [va_up, hso]; simp only [va_up, if_neg hji]; exact hi2 j (by omega)) (lv_sub hl [0, 1] rfl) (zz_pickP (pre := [(x, .inr (0, [.int (nI lim), .int (nI rm), .ref dl, .int (nI n), .ref sb, .ref dc, .ref cm, .ref fo])), (dc, .inl (cV, 3, .inr (.inr (.inr (.inr (va_up f9 i (some a9))))))), (cm, .inl (cV, 3, .inr (.inr (.inr (.inr hc)))))]) (fz := fz) (wc := [(x, .inr (0, [.int (nI lim), .int (nI rm), .ref dl, .int (nI n), .ref sb, .ref dc, .ref cm, .ref fo])), (dc, .inl (cV, 3, .inr (.inr (.inr (.inr (va_up f9 i (some a9))))))), (cm, .inl (cV, 3, .inr (.inr (.inr (.inr hc)))))]) hP [0, 1, 2] rfl) (zz_pickD (pre := [(x, .inr (0, [.int (nI lim), .int (nI rm), .ref dl, .int (nI n), .ref sb, .ref dc, .ref cm, .ref fo])), (dc, .inl (cV, 3, .inr (.inr (.inr (.inr (va_up f9 i (some a9))))))), (cm, .inl (cV, 3, .inr (.inr (.inr (.inr hc)))))]) (fz := fz) (wc := [(x, .inr (0, [.int (nI lim), .int (nI rm), .ref dl, .int (nI n), .ref sb, .ref dc, .ref cm, .ref fo])), (dc, .inl (cV, 3, .inr (.inr (.inr (.inr (va_up f9 i (some a9))))))), (cm, .inl (cV, 3, .inr (.inr (.inr (.inr hc)))))]) hD [0, 1, 2] (by decide) rfl) hS
  exact hloop _ 0 h _ _ ls rfl (by decide) (fun j hj => absurd hj (Nat.not_lt_zero _)) (lv_sub hl [0, 1] rfl) (zz_pickP (pre := [(x, .inr (0, [.int (nI lim), .int (nI rm), .ref dl, .int (nI n), .ref sb, .ref dc, .ref cm, .ref fo])), (dc, .inl (cV, 3, .inr (.inr (.inr (.inr h))))), (cm, .inl (cV, 3, .inr (.inr (.inr (.inr hc)))))]) (fz := fz) (wc := [(x, .inr (0, [.int (nI lim), .int (nI rm), .ref dl, .int (nI n), .ref sb, .ref dc, .ref cm, .ref fo])), (dc, .inl (cV, 3, .inr (.inr (.inr (.inr h))))), (cm, .inl (cV, 3, .inr (.inr (.inr (.inr hc)))))]) hP [0, 1, 2] rfl) (zz_pickD (pre := [(x, .inr (0, [.int (nI lim), .int (nI rm), .ref dl, .int (nI n), .ref sb, .ref dc, .ref cm, .ref fo])), (dc, .inl (cV, 3, .inr (.inr (.inr (.inr h))))), (cm, .inl (cV, 3, .inr (.inr (.inr (.inr hc)))))]) (fz := fz) (wc := [(x, .inr (0, [.int (nI lim), .int (nI rm), .ref dl, .int (nI n), .ref sb, .ref dc, .ref cm, .ref fo])), (dc, .inl (cV, 3, .inr (.inr (.inr (.inr h))))), (cm, .inl (cV, 3, .inr (.inr (.inr (.inr hc)))))]) hD [0, 1, 2] (by decide) rfl) hS
