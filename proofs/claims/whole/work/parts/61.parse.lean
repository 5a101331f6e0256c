/-! the reading of JSON with a stack of open brackets: kind, fuel, own name, names and rows of the parts so far; innermost first -/
abbrev Frm := Nat × Nat × List Nat × List (List Nat) × List (List Row)
def mkN (st : List Frm) (x : List Nat) : List Nat := match st with
  | [] => []
  | F :: _ => if F.1 = 6 then 0 :: x else []
/-- the rows so far -/
def flt : List Frm → List Row
  | [] => []
  | F :: st => flt st ++ ((F.1, st.length, 0, [], mkN st F.2.2.1) :: lift st.length (kidRows F.1 F.2.2.2.1 F.2.2.2.2))
def brnI (k : Nat) (q : Nat × (List (List Nat) × List (List Row)) × List Nat) : Nat × List Row × List Nat := if q.1 = 0 then (0, (k, 0, 0, [], []) :: kidRows k q.2.1.1 q.2.1.2, q.2.2) else (q.1, [], [])
/-- behind a part -/
def itq (f : List Nat → Nat × List Row × List Nat) (k n : Nat) (ns : List (List Nat)) (rs : List (List Row)) (R : List Nat) : Nat × List Row × List Nat :=
  if hd0 (skp R) = clsK k then (0, (k, 0, 0, [], []) :: kidRows k ns rs, (skp R).drop 1)
  else if hd0 (skp R) = 44 then brnI k (itmR f k n ns rs ((skp R).drop 1)) else (1, [], [])
/-- what comes of the whole, where the value under way gives q -/
def fin (most : Nat) : List Frm → List Nat → Nat × List Row × List Nat → Nat × List Row × List Nat
  | [], _, q => q
  | F :: st, x, q => if q.1 = 0 then fin most st F.2.2.1 (itq (pv (most - (st.length + 1))) F.1 F.2.1 (F.2.2.2.1 ++ [x]) (F.2.2.2.2 ++ [q.2.1]) q.2.2) else (q.1, [], [])
theorem fin_bad {most : Nat} {st : List Frm} {x : List Nat} {q : Nat × List Row × List Nat} (h : ¬ q.1 = 0) : (fin most st x q).1 = q.1 := by
  cases st with
  | nil => rfl
  | cons F st => rw [fin, if_neg h]
theorem fin_c {most : Nat} {st : List Frm} {x : List Nat} {c : Nat} (h : ¬ c = 0) : fin most st x (c, [], []) = (c, [], []) := by
  cases st with
  | nil => rfl
  | cons F st => rw [fin, if_neg h]
theorem fin_item {most : Nat} {st : List Frm} {x : List Nat} {k n : Nat} {ns : List (List Nat)} {rs : List (List Row)} {R : List Nat} : fin most st x (brnI k (itmR (pv (most - (st.length + 1))) k (n + 1) ns rs R)) = fin most ((k, n, x, ns, rs) :: st) (oneR (pv (most - (st.length + 1))) k ns (skp R)).2.1.1 ((oneR (pv (most - (st.length + 1))) k ns (skp R)).1, (oneR (pv (most - (st.length + 1))) k ns (skp R)).2.1.2, (oneR (pv (most - (st.length + 1))) k ns (skp R)).2.2) := by
  rw [fin, itmR]
  generalize oneR (pv (most - (st.length + 1))) k ns (skp R) = o
  by_cases h : o.1 = 0
  · rw [if_pos h, if_pos h, itq]
    congr 1
    split
    · rfl
    · split
      · rfl
      · rfl
  · rw [if_neg h, if_neg h, brnI, if_neg h]
    exact fin_c h
theorem brn_I {f : List Nat → Nat × List Row × List Nat} {k : Nat} {R : List Nat} (h : ¬ hd0 R = clsK k) : brnR f k R = brnI k (itmR f k 160 [] [] R) := by
  rw [brnR, if_neg h]; rfl
/-- a name behind its place, up to the colon -/
def nam (ns : List (List Nat)) (R : List Nat) : Nat × List Nat × List Nat :=
  if hd0 R = 34 then (match qtd 34 (R.drop 1) with
    | none => (1, [], [])
    | some q => if q.1 ∈ ns then (3, [], []) else if hd0 (skp q.2) = 58 then (0, q.1, (skp q.2).drop 1) else (1, [], []))
  else (1, [], [])
theorem mem_nam {f : List Nat → Nat × List Row × List Nat} {ns : List (List Nat)} {R : List Nat} : memR f ns R = if (nam ns R).1 = 0 then ((f (skp (nam ns R).2.2)).1, ((nam ns R).2.1, (f (skp (nam ns R).2.2)).2.1), (f (skp (nam ns R).2.2)).2.2) else ((nam ns R).1, ([], []), []) := by
  unfold memR nam
  split
  · cases qtd 34 (R.drop 1) with
    | none => rfl
    | some q =>
      simp only []
      split
      · rfl
      · split <;> rfl
  · rfl
/-- the next part begins: its name is there -/
theorem fin_named {most : Nat} {st : List Frm} {x : List Nat} {n : Nat} {ns : List (List Nat)} {rs : List (List Row)} {R tx R1 : List Nat} (h : nam ns (skp R) = (0, tx, R1)) : fin most st x (brnI 6 (itmR (pv (most - (st.length + 1))) 6 (n + 1) ns rs R)) = fin most ((6, n, x, ns, rs) :: st) tx (pv (most - (st.length + 1)) (skp R1)) := by
  rw [fin_item, one6, mem_nam, h]; rfl
theorem fin_noname {most : Nat} {st : List Frm} {x : List Nat} {n : Nat} {ns : List (List Nat)} {rs : List (List Row)} {R : List Nat} (h : ¬ (nam ns (skp R)).1 = 0) : (fin most st x (brnI 6 (itmR (pv (most - (st.length + 1))) 6 (n + 1) ns rs R))).1 = (nam ns (skp R)).1 := by
  rw [fin_item, one6, mem_nam, if_neg h]
  exact fin_bad h
theorem fin_elem {most : Nat} {st : List Frm} {x : List Nat} {n : Nat} {ns : List (List Nat)} {rs : List (List Row)} {R : List Nat} : fin most st x (brnI 5 (itmR (pv (most - (st.length + 1))) 5 (n + 1) ns rs R)) = fin most ((5, n, x, ns, rs) :: st) [] (pv (most - (st.length + 1)) (skp R)) := by
  rw [fin_item, one5]
/-- open brackets as they may be; mm letters are left at most -/
def WST (most mm : Nat) : List Frm → Prop
  | [] => True
  | F :: st => (F.1 = 5 ∨ F.1 = 6) ∧ st.length < most ∧ F.2.2.2.1.length = F.2.2.2.2.length ∧ (∀ r ∈ F.2.2.2.2, WR (most - st.length) r) ∧ mm ≤ F.2.1 ∧ WST most mm st
theorem WST.down {most : Nat} : ∀ {st : List Frm} {mm m2 : Nat}, WST most mm st → m2 ≤ mm → WST most m2 st
  | [], _, _, _, _ => trivial
  | _ :: _, _, _, ⟨h1, h2, h3, h4, h5, h6⟩, hm => ⟨h1, h2, h3, h4, by omega, h6.down hm⟩
theorem WST.len {most mm : Nat} {st : List Frm} (h : WST most mm st) : st.length ≤ most := by
  cases st with
  | nil => exact Nat.zero_le _
  | cons F st => exact h.2.1
theorem WR.up : ∀ {d e : Nat} {r : List Row}, WR d r → d ≤ e → WR e r
  | 0, _, _, h, _ => h.elim
  | d + 1, 0, _, _, h => absurd h (Nat.not_succ_le_zero d)
  | d + 1, e + 1, r, ⟨k, num, rt, ns, rs, h1, h2, h3, h4, h5⟩, hd => ⟨k, num, rt, ns, rs, h1, h2, h3, h4, fun r hr => (h5 r hr).up (Nat.le_of_succ_le_succ hd)⟩
def psh (st : List Frm) (x : List Nat) (r : List Row) : List Frm := match st with
  | [] => []
  | F :: st => (F.1, F.2.1, F.2.2.1, F.2.2.2.1 ++ [x], F.2.2.2.2 ++ [r]) :: st
theorem kid_snoc (k : Nat) : ∀ (ns : List (List Nat)) (rs : List (List Row)) (n : List Nat) (r : List Row), ns.length = rs.length → kidRows k (ns ++ [n]) (rs ++ [r]) = kidRows k ns rs ++ raise (if k = 6 then setNm (0 :: n) r else r)
  | [], [], n, r, _ => by simp [kidRows]
  | [], _ :: _, n, r, h => by simp at h
  | _ :: _, [], n, r, h => by simp at h
  | a :: ns, b :: rs, n, r, h => by
    rw [List.cons_append, List.cons_append, kidRows, kidRows, kid_snoc k ns rs n r (by simpa using h), List.append_assoc]
theorem flt_psh {most mm : Nat} {F : Frm} {st : List Frm} {x : List Nat} {r : List Row} (h : WST most mm (F :: st)) (hr : WR (most - st.length) r) : flt (psh (F :: st) x r) = flt (F :: st) ++ setNm (mkN (F :: st) x) (lift (F :: st).length r) := by
  rw [psh, flt, flt]
  show flt st ++ ((F.1, st.length, 0, [], mkN st F.2.2.1) :: lift st.length (kidRows F.1 (F.2.2.2.1 ++ [x]) (F.2.2.2.2 ++ [r]))) = _
  rw [kid_snoc _ _ _ _ _ h.2.2.1, lift_app, lift_raise, kid_nm hr, lift_setNm]
  simp [mkN]
theorem WST.psh {most mm : Nat} {F : Frm} {st : List Frm} {x : List Nat} {r : List Row} (h : WST most mm (F :: st)) (hr : WR (most - st.length) r) : WST most mm (psh (F :: st) x r) := by
  obtain ⟨h1, h2, h3, h4, h5, h6⟩ := h
  refine ⟨h1, h2, by simpa using h3, fun r2 h2 => ?_, h5, h6⟩
  rcases List.mem_append.mp h2 with h | h
  · exact h4 r2 h
  · rw [List.mem_singleton.mp h]; exact hr
theorem WST.wr {most mm : Nat} {F : Frm} {st : List Frm} (h : WST most mm (F :: st)) : WR (most - st.length + 1) ((F.1, 0, 0, [], []) :: kidRows F.1 F.2.2.2.1 F.2.2.2.2) := by
  obtain ⟨h1, h2, h3, h4, h5, h6⟩ := h
  exact ⟨F.1, 0, [], F.2.2.2.1, F.2.2.2.2, rfl, h3, fun hk => by rcases h1 with h1 | h1 <;> omega, by rcases h1 with h1 | h1 <;> omega, h4⟩
/-- where the reading stands -/
def LSt (most : Nat) (T : Nat × List Row × List Nat) (wt : Bool) (st : List Frm) (x : List Nat) (rows : List Row) (R : List Nat) : Prop :=
  WST most R.length st ∧ ((wt = true ∧ rows = flt st ∧ fin most st x (pv (most - st.length) (skp R)) = T) ∨
  (wt = false ∧ st = [] ∧ T = (0, rows, R) ∧ WR (most + 1) rows) ∨
  (wt = false ∧ rows = flt st ∧ ∃ F st', st = F :: st' ∧ fin most st' F.2.2.1 (itq (pv (most - st.length)) F.1 F.2.1 F.2.2.2.1 F.2.2.2.2 R) = T))
theorem LSt.start {most : Nat} {L : List Nat} : LSt most (pv most (skp L)) true [] [] [] L := ⟨trivial, Or.inl ⟨rfl, rfl, rfl⟩⟩
theorem LSt.skip {most : Nat} {T : Nat × List Row × List Nat} {wt : Bool} {st : List Frm} {x : List Nat} {rows : List Row} {R : List Nat} (hs : ∀ R, skp (skp R) = skp R) (h : LSt most T wt st x rows R) (hT : wt = true ∨ ¬ st = []) : LSt most T wt st x rows (skp R) := by
  obtain ⟨h0, h⟩ := h
  refine ⟨h0.down (skp_le R), ?_⟩
  rcases h with ⟨h1, h2, h3⟩ | ⟨h1, h2, h3, h4⟩ | ⟨h1, h2, F, st', h3, h4⟩
  · exact Or.inl ⟨h1, h2, by rw [hs]; exact h3⟩
  · rcases hT with hT | hT
    · rw [h1] at hT; cases hT
    · exact absurd h2 hT
  · exact Or.inr (Or.inr ⟨h1, h2, F, st', h3, by rw [itq, hs]; exact h4⟩)
theorem skp_skp : ∀ R : List Nat, skp (skp R) = skp R
  | [] => rfl
  | c :: R => by
    by_cases h : c = 32
    · rw [skp, if_pos h]; exact skp_skp R
    · rw [skp, if_neg h, skp, if_neg h]
/-- a value is read -/
theorem LSt.done {most mm : Nat} {T : Nat × List Row × List Nat} {st : List Frm} {x : List Nat} {r : List Row} {R : List Nat} (hw : WST most mm st) (hm : R.length ≤ mm) (hr : WR (most - st.length + 1) r) (h : fin most st x (0, r, R) = T) : LSt most T false (psh st x r) [] (flt st ++ setNm (mkN st x) (lift st.length r)) R := by
  cases st with
  | nil =>
    refine ⟨trivial, Or.inr (Or.inl ⟨rfl, rfl, ?_, ?_⟩)⟩
    · show T = (0, [] ++ setNm [] (lift 0 r), R)
      rw [lift_zero, wr_setNm hr, List.nil_append]
      exact h.symm
    · show WR (most + 1) ([] ++ setNm [] (lift 0 r))
      rw [lift_zero, wr_setNm hr]
      exact hr
  | cons F st =>
    have hl := hw.2.1
    have hr2 : WR (most - st.length) r := by
      have e : most - (F :: st).length + 1 = most - st.length := by simp only [List.length_cons]; omega
      rw [e] at hr; exact hr
    refine ⟨(hw.psh hr2).down hm, Or.inr (Or.inr ⟨rfl, (flt_psh hw hr2).symm, _, st, rfl, ?_⟩)⟩
    rw [fin, if_pos rfl] at h
    exact h
/-- a bracket is opened; the next part begins at R2 -/
theorem LSt.open5 {most mm n : Nat} {T : Nat × List Row × List Nat} {st : List Frm} {x : List Nat} {ns : List (List Nat)} {rs : List (List Row)} {R2 : List Nat} (hw : WST most mm st) (hl : st.length < most) (hn : R2.length ≤ n) (hm : R2.length ≤ mm) (hns : ns.length = rs.length) (hrs : ∀ r ∈ rs, WR (most - st.length) r) (h : fin most st x (brnI 5 (itmR (pv (most - (st.length + 1))) 5 (n + 1) ns rs R2)) = T) : LSt most T true ((5, n, x, ns, rs) :: st) [] (flt ((5, n, x, ns, rs) :: st)) R2 :=
  ⟨⟨Or.inl rfl, hl, hns, hrs, hn, hw.down hm⟩, Or.inl ⟨rfl, rfl, by rw [← h, fin_elem]; rfl⟩⟩
theorem LSt.open6 {most mm n : Nat} {T : Nat × List Row × List Nat} {st : List Frm} {x tx : List Nat} {ns : List (List Nat)} {rs : List (List Row)} {R2 R3 : List Nat} (hw : WST most mm st) (hl : st.length < most) (hn : R3.length ≤ n) (hm : R3.length ≤ mm) (hns : ns.length = rs.length) (hrs : ∀ r ∈ rs, WR (most - st.length) r) (hnm : nam ns (skp R2) = (0, tx, R3)) (h : fin most st x (brnI 6 (itmR (pv (most - (st.length + 1))) 6 (n + 1) ns rs R2)) = T) : LSt most T true ((6, n, x, ns, rs) :: st) tx (flt ((6, n, x, ns, rs) :: st)) R3 :=
  ⟨⟨Or.inr rfl, hl, hns, hrs, hn, hw.down hm⟩, Or.inl ⟨rfl, rfl, by rw [← h, fin_named hnm]; rfl⟩⟩
theorem flt_open {k n : Nat} {x : List Nat} {st : List Frm} : flt ((k, n, x, [], []) :: st) = flt st ++ [(k, st.length, 0, [], mkN st x)] := by
  simp [flt, kidRows, lift]
theorem flt_sub {F : Frm} {st : List Frm} : SUB (flt (F :: st)) (flt st).length st.length (mkN st F.2.2.1) ((F.1, 0, 0, [], []) :: kidRows F.1 F.2.2.2.1 F.2.2.2.2) :=
  ⟨flt st, [], by rw [flt, List.append_nil]; simp [setNm, lift], rfl, fun q r e => by cases e⟩
theorem flt_close {F : Frm} {st : List Frm} : flt (F :: st) = flt st ++ setNm (mkN st F.2.2.1) (lift st.length ((F.1, 0, 0, [], []) :: kidRows F.1 F.2.2.2.1 F.2.2.2.2)) := by
  rw [flt]; simp [setNm, lift]
theorem LTx2 : LTx.getD 2 [] = [110, 117, 108, 108] := by decide
theorem LTx3 : LTx.getD 3 [] = [116, 114, 117, 101] := by decide
theorem LTx4 : LTx.getD 4 [] = [102, 97, 108, 115, 101] := by decide
/-- a scalar as both read it -/
theorem scl_pv {d : Nat} {R : List Nat} (h91 : ¬ (hd0 R = 91 ∨ hd0 R = 123)) : pv d R = (match scl false R with
    | none => (1, [], [])
    | some q => (0, [(q.1.1, 0, q.1.2.1, q.1.2.2, [])], q.2)) := by
  by_cases h34 : hd0 R = 34
  · rw [pv_str h34, strR, scl, h34, if_neg (by decide), if_neg (by decide), if_neg (by decide), if_neg (by decide), if_pos (Or.inl rfl)]
    cases qtd 34 (R.drop 1) <;> rfl
  · rw [pv_sca h34 h91, scaR, scl]
    split
    · cases num R <;> rfl
    · next hn =>
      have hh : R.getD 0 0 = hd0 R := rfl
      rw [wrd]
      cases R with
      | nil =>
        have e : wrdK [] = 2 := by decide
        rw [e, LTx4]
        rfl
      | cons c R =>
        have hc : hd0 (c :: R) = c := rfl
        have hd : (c :: R).drop 1 = R := rfl
        rw [hc, hd]
        rw [hc] at h34
        by_cases h1 : c = 110
        · have e : wrdK (c :: R) = 0 := if_pos h1
          have e2 : pfx (LTx.getD (0 + 2) []) (c :: R) = pfx [117, 108, 108] R := by rw [LTx2, pfx, if_pos h1]
          rw [e, e2, if_pos h1]
          cases pfx [117, 108, 108] R <;> rfl
        · by_cases h2 : c = 116
          · have e : wrdK (c :: R) = 1 := by rw [wrdK, hh, hc, if_neg h1, if_pos h2]
            have e2 : pfx (LTx.getD (1 + 2) []) (c :: R) = pfx [114, 117, 101] R := by rw [LTx3, pfx, if_pos h2]
            rw [e, e2, if_neg h1, if_pos h2]
            cases pfx [114, 117, 101] R <;> rfl
          · have e : wrdK (c :: R) = 2 := by rw [wrdK, hh, hc, if_neg h1, if_neg h2]
            rw [e, if_neg h1, if_neg h2]
            by_cases h3 : c = 102
            · have e2 : pfx (LTx.getD (2 + 2) []) (c :: R) = pfx [97, 108, 115, 101] R := by rw [LTx4, pfx, if_pos h3]
              rw [e2, if_pos h3]
              cases pfx [97, 108, 115, 101] R <;> rfl
            · have e2 : pfx (LTx.getD (2 + 2) []) (c :: R) = none := by rw [LTx4, pfx, if_neg h3]
              rw [e2, if_neg h3, if_neg (fun h => h.elim h34 (fun h => absurd h.1 (by decide)))]
theorem qtd_len {mk : Nat} : ∀ (n : Nat) (R : List Nat), R.length ≤ n → ∀ q, qtd mk R = some q → q.1.length + q.2.length + 1 ≤ R.length ∧ ∀ c ∈ q.1, c ∈ R
  | 0, R, hn, q, h => by
    cases R with
    | nil => simp [qtd] at h
    | cons c R => simp at hn
  | n + 1, [], hn, q, h => by simp [qtd] at h
  | n + 1, [c], hn, q, h => by
    simp only [qtd] at h
    split at h
    · cases h; simp
    · split at h
      · cases h
      · simp [qtd] at h
  | n + 1, c :: d :: R, hn, q, h => by
    simp only [List.length_cons] at hn
    rw [qtd] at h
    split at h
    · cases h; simp
    · split at h
      · split at h
        · rw [Option.map_eq_some_iff] at h
          obtain ⟨z, hz, rfl⟩ := h
          have := qtd_len n R (by omega) z hz
          simp only [List.length_cons]
          refine ⟨by omega, fun c2 hc2 => ?_⟩
          rcases List.mem_cons.mp hc2 with rfl | hc2
          · simp
          · exact List.mem_cons_of_mem _ (List.mem_cons_of_mem _ (this.2 c2 hc2))
        · cases h
      · rw [Option.map_eq_some_iff] at h
        obtain ⟨z, hz, rfl⟩ := h
        have := qtd_len n (d :: R) (by simp only [List.length_cons]; omega) z hz
        simp only [List.length_cons] at this ⊢
        refine ⟨by omega, fun c2 hc2 => ?_⟩
        rcases List.mem_cons.mp hc2 with rfl | hc2
        · simp
        · exact List.mem_cons_of_mem _ (this.2 c2 hc2)
theorem numD_rng : ∀ (R : List Nat) (v : Nat) (q : Nat × List Nat), v ≤ 2 ^ 63 → numD R v = some q → q.1 ≤ 2 ^ 63
  | [], v, q, hv, h => by simp [numD] at h; subst h; exact hv
  | c :: R, v, q, hv, h => by
    rw [numD] at h
    split at h
    · split at h
      · cases h
      · exact numD_rng R _ q (by omega) h
    · cases h; exact hv
theorem num_rng {R : List Nat} {q : Int × List Nat} (h : num R = some q) : -2 ^ 63 ≤ q.1 ∧ q.1 < 2 ^ 63 := by
  have key : ∀ mi R, numR mi R = some q → -2 ^ 63 ≤ q.1 ∧ q.1 < 2 ^ 63 := by
    intro mi R h
    unfold numR at h
    split at h
    · cases h; exact (by decide : (-2 ^ 63 : Int) ≤ 0 ∧ (0 : Int) < 2 ^ 63)
    · split at h
      · cases hd : numD R 0 with
        | none => rw [hd] at h; cases h
        | some z =>
          have hz := numD_rng R 0 z (by decide) hd
          rw [hd] at h
          obtain ⟨v, R2⟩ := z
          simp only [numF] at h
          split at h
          · cases h; exact nb_rng1 hz
          · split at h
            · cases h
            · next hb => cases h; exact nb_rng2 hz hb
      · cases h
  unfold num at h
  split at h
  · exact key _ _ h
  · exact key _ _ h
theorem mem_drop {α : Type} {c : α} {R : List α} {n : Nat} (h : c ∈ R.drop n) : c ∈ R := List.mem_of_mem_drop h
theorem scl_len {sg : Bool} {R : List Nat} {k : Nat} {z : Int} {tx R' : List Nat} (h : scl sg R = some ((k, z, tx), R')) : k ≤ 4 ∧ (-2 ^ 63 ≤ z ∧ z < 2 ^ 63) ∧ (¬ k = 3 → z = 0) ∧ (¬ k = 4 → tx = []) ∧ tx.length + R'.length + 1 ≤ R.length ∧ ∀ c ∈ tx, c ∈ R := by
  have wd : ∀ (k0 : Nat) (ws : List Nat), k0 ≤ 2 → 0 < ws.length → (pfx ws (R.drop 1)).map (fun q => ((k0, (0 : Int), ([] : List Nat)), q)) = some ((k, z, tx), R') → k ≤ 4 ∧ (-2 ^ 63 ≤ z ∧ z < 2 ^ 63) ∧ (¬ k = 3 → z = 0) ∧ (¬ k = 4 → tx = []) ∧ tx.length + R'.length + 1 ≤ R.length ∧ ∀ c ∈ tx, c ∈ R := by
    intro k0 ws hk hws h
    obtain ⟨q, hq, e⟩ := Option.map_eq_some_iff.mp h
    cases e
    have := pfx_len _ _ _ hq
    rw [List.length_drop] at this
    exact ⟨by omega, by decide, fun _ => rfl, fun _ => rfl, by simp only [List.length_nil]; omega, fun c hc => by cases hc⟩
  unfold scl at h
  split at h
  · obtain ⟨q, hq, e⟩ := Option.map_eq_some_iff.mp h
    cases e
    have := num_lt _ _ hq
    exact ⟨by decide, num_rng hq, fun h => absurd rfl h, fun _ => rfl, by simp only [List.length_nil]; omega, fun c hc => by cases hc⟩
  · split at h
    · exact wd 0 _ (by decide) (by decide) h
    · split at h
      · exact wd 1 _ (by decide) (by decide) h
      · split at h
        · exact wd 2 _ (by decide) (by decide) h
        · split at h
          · obtain ⟨q, hq, e⟩ := Option.map_eq_some_iff.mp h
            cases e
            have := qtd_len _ _ (Nat.le_refl _) _ hq
            rw [List.length_drop] at this
            exact ⟨by decide, by decide, fun _ => rfl, fun h => absurd rfl h, by omega, fun c hc => mem_drop (this.2 c hc)⟩
          · cases h
theorem nam_len {ns : List (List Nat)} {R tx R1 : List Nat} (h : nam ns R = (0, tx, R1)) : tx.length + R1.length + 3 ≤ R.length ∧ (∀ c ∈ tx, c ∈ R) := by
  unfold nam at h
  split at h
  · cases hq : qtd 34 (R.drop 1) with
    | none => rw [hq] at h; cases h
    | some q =>
      rw [hq] at h
      have := qtd_len _ _ (Nat.le_refl _) _ hq
      rw [List.length_drop] at this
      simp only [] at h
      split at h
      · cases h
      · split at h
        · next h58 =>
          cases h
          have h1 := skp_le q.2
          have h2 : 0 < (skp q.2).length := hd0_pos (by omega)
          rw [List.length_drop]
          exact ⟨by omega, fun c hc => mem_drop (this.2 c hc)⟩
        · cases h
  · cases h
theorem kid_in {k d : Nat} : ∀ {ns : List (List Nat)} {rs : List (List Row)}, (∀ r ∈ rs, ∀ q ∈ r, q.2.1 ≤ d) → ∀ q ∈ kidRows k ns rs, q.2.1 ≤ d + 1
  | n :: ns, r :: rs, h, q, hq => by
    rw [kidRows, List.mem_append] at hq
    rcases hq with hq | hq
    · obtain ⟨q0, h0, rfl⟩ := List.mem_map.mp hq
      show q0.2.1 + 1 ≤ d + 1
      have hr := h r List.mem_cons_self
      split at h0
      · cases r with
        | nil => cases h0
        | cons a r =>
          rcases List.mem_cons.mp h0 with rfl | h0
          · exact Nat.succ_le_succ (hr a List.mem_cons_self)
          · exact Nat.succ_le_succ (hr q0 (List.mem_cons_of_mem _ h0))
      · exact Nat.succ_le_succ (hr q0 h0)
    · exact kid_in (fun r hr => h r (List.mem_cons_of_mem _ hr)) q hq
  | [], _, _, q, hq => by simp [kidRows] at hq
  | _ :: _, [], _, q, hq => by simp [kidRows] at hq
theorem wr_lv : ∀ {d : Nat} {r : List Row}, WR d r → ∀ q ∈ r, q.2.1 + 1 ≤ d
  | 0, _, h, _, _ => h.elim
  | d + 1, r, ⟨k, num, rt, ns, rs, e, h2, h3, h4, h5⟩, q, hq => by
    rw [e] at hq
    rcases List.mem_cons.mp hq with rfl | hq
    · show 0 + 1 ≤ d + 1
      omega
    · cases d with
      | zero =>
        cases rs with
        | nil => cases ns <;> simp [kidRows] at hq
        | cons r0 rs => exact (h5 r0 List.mem_cons_self).elim
      | succ d =>
        have := kid_in (d := d) (fun r hr q hq => by have := wr_lv (h5 r hr) q hq; omega) q hq
        omega
