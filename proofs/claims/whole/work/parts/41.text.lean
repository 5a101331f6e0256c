/-! documents by themselves, and their text -/
/-- rows that are one document, of at most d levels -/
def WR : Nat → List Row → Prop
  | 0, _ => False
  | d + 1, rows => ∃ (k : Nat) (num : Int) (rt : List Nat) (ns : List (List Nat)) (rs : List (List Row)), rows = (k, 0, num, rt, []) :: kidRows k ns rs ∧ ns.length = rs.length ∧ (k < 5 → rs = []) ∧ k ≤ 6 ∧ ∀ r ∈ rs, WR d r
theorem HDr.le {kd : Int32} {tt : List Nat} {nu : Int64} {k : Nat} {num : Int} {tx : List Nat} (h : HDr kd tt nu k num tx) : k ≤ 6 := by
  rcases h with ⟨_, h, _⟩ | ⟨_, h, _⟩ | ⟨_, h, _⟩ | ⟨_, h, _⟩ | ⟨_, h, _⟩ <;> omega
theorem VT.wr {cB cO : ClassId} {em : Nat} {aK : Nat → Nat} : ∀ {d : Nat} {tl : va_W} {a : Nat} {nn : List Nat} {rows : List Row}, VT cB cO em aK d tl a nn rows → WR d rows
  | 0, _, _, _, _, h => h.elim
  | d + 1, tl, a, nn, rows, h => by
    obtain ⟨kd, tx, nu, nm, pa, dp, cn, tt, k, num, rt, xs, ns, rs, h1, h2, h3, h4, h5, h6, h7, h8, h9, h10, -⟩ := h
    exact ⟨k, num, rt, ns, rs, h10, by omega, fun hk => by rw [h8 hk] at h7; exact List.length_eq_zero_iff.mp h7, h5.le, of_getD (z := []) (fun i hi => (h9 i (by omega)).wr)⟩
def escC (c : Nat) : List Nat := if c = 34 ∨ c = 92 then [92, c] else [c]
def strT (tx : List Nat) : List Nat := 34 :: (tx.flatMap escC ++ [34])
def opnK (k : Nat) : Nat := if k = 5 then 91 else 123
def tok (q : Row) : List Nat := if q.1 ≤ 2 then LTx.getD (q.1 + 2) [] else if q.1 = 3 then dec q.2.2.1 else if q.1 = 4 then strT q.2.2.2.1 else [opnK q.1]
def nmT (nm : List Nat) : List Nat := match nm with
  | [] => []
  | _ :: n => strT n ++ [58]
def commaT (st : List (Nat × Bool)) : List Nat := match st with
  | (_, true) :: _ => [44]
  | _ => []
def markS (st : List (Nat × Bool)) : List (Nat × Bool) := match st with
  | [] => []
  | (c, _) :: s => (c, true) :: s
def pushS (k : Nat) (st : List (Nat × Bool)) : List (Nat × Bool) := if 5 ≤ k then (clsK k, false) :: st else st
/-- the text of rows, with the brackets that are open -/
def tel : List (Nat × Bool) → List Row → List Nat
  | st, [] => st.map Prod.fst
  | st, q :: r => (st.take (st.length - q.2.1)).map Prod.fst ++ (commaT (st.drop (st.length - q.2.1)) ++ (nmT q.2.2.2.2 ++ (tok q ++ tel (pushS q.1 (markS (st.drop (st.length - q.2.1)))) r)))
def txt (rows : List Row) : List Nat := tel [] rows
def lift (n : Nat) (rows : List Row) : List Row := rows.map (fun q => (q.1, q.2.1 + n, q.2.2))
def LOW (n : Nat) (rest : List Row) : Prop := ∀ q r, rest = q :: r → q.2.1 ≤ n
theorem mark_len (st : List (Nat × Bool)) : (markS st).length = st.length := by cases st <;> rfl
theorem lift_raise (n : Nat) (r : List Row) : lift n (raise r) = lift (n + 1) r := by
  simp only [lift, raise, List.map_map]
  apply List.map_congr_left
  intro q _
  simp only [Function.comp]
  rw [Nat.add_assoc, Nat.add_comm 1 n]
theorem lift_app (n : Nat) (a b : List Row) : lift n (a ++ b) = lift n a ++ lift n b := List.map_append
theorem lift_setNm (n : Nat) (nm : List Nat) (r : List Row) : lift n (setNm nm r) = setNm nm (lift n r) := by cases r <;> rfl
theorem lift_zero (r : List Row) : lift 0 r = r := by
  induction r with
  | nil => rfl
  | cons q r ih =>
    show (q.1, q.2.1 + 0, q.2.2) :: lift 0 r = q :: r
    rw [ih]
    rfl
/-- the text of the parts -/
def kT (k : Nat) : Bool → List (List Nat) → List (List Row) → List Nat
  | b, n :: ns, r :: rs => (if b then [44] else []) ++ (nmT (if k = 6 then 0 :: n else []) ++ (txt r ++ kT k true ns rs))
  | _, _, _ => []
theorem tel_close {c : Nat} {b : Bool} {s : List (Nat × Bool)} {rest : List Row} (h : LOW s.length rest) : tel ((c, b) :: s) rest = c :: tel s rest := by
  cases rest with
  | nil => rfl
  | cons q r =>
    have hq := h q r rfl
    rw [tel, tel]
    have e : ((c, b) :: s).length - q.2.1 = (s.length - q.2.1) + 1 := by simp only [List.length_cons]; omega
    rw [e]
    rfl
theorem wr_setNm {d : Nat} {r : List Row} (h : WR d r) : setNm [] r = r := by
  cases d with
  | zero => exact h.elim
  | succ d => obtain ⟨_, _, _, _, _, rfl, _⟩ := h; rfl
theorem wr_low {d : Nat} {r : List Row} (h : WR d r) (n : Nat) (nm : List Nat) (rest : List Row) : LOW n (setNm nm (lift n r) ++ rest) := by
  cases d with
  | zero => exact h.elim
  | succ d =>
    obtain ⟨_, _, _, _, _, rfl, _⟩ := h
    intro q r2 e
    have e1 := (List.cons.inj e).1
    rw [← e1]
    show 0 + n ≤ n
    omega
theorem kid_nm {k : Nat} {n : List Nat} {r : List Row} {d : Nat} (h : WR d r) : (if k = 6 then setNm (0 :: n) r else r) = setNm (if k = 6 then 0 :: n else []) r := by
  split
  · rfl
  · exact (wr_setNm h).symm
theorem kids_low {k d : Nat} : ∀ (ns : List (List Nat)) (rs : List (List Row)), (∀ r ∈ rs, WR d r) → ∀ (n : Nat) (rest : List Row), LOW n rest → LOW (n + 1) (lift n (kidRows k ns rs) ++ rest)
  | [], rs, _, n, rest, h => by
    cases rs <;> exact fun q r e => Nat.le_succ_of_le (h q r e)
  | n0 :: ns, [], _, n, rest, h => fun q r e => Nat.le_succ_of_le (h q r e)
  | n0 :: ns, r0 :: rs, hw, n, rest, h => by
    rw [kidRows, lift_app, lift_raise, kid_nm (hw r0 List.mem_cons_self), lift_setNm, List.append_assoc]
    exact wr_low (hw r0 List.mem_cons_self) (n + 1) _ _
/-- a document among other rows -/
theorem tel_sub : ∀ (d : Nat) (rows : List Row), WR d rows → (∀ (st : List (Nat × Bool)) (nm : List Nat) (rest : List Row), LOW st.length rest → tel st (setNm nm (lift st.length rows) ++ rest) = commaT st ++ (nmT nm ++ (txt rows ++ tel (markS st) rest))) ∧ (∀ (k : Nat) (num : Int) (rt : List Nat) (ns : List (List Nat)) (rs : List (List Row)), rows = (k, 0, num, rt, []) :: kidRows k ns rs → ns.length = rs.length → (∀ r ∈ rs, WR (d - 1) r) → 5 ≤ k → txt rows = opnK k :: (kT k false ns rs ++ [clsK k]))
  | 0, _, h => h.elim
  | d + 1, rows, h => by
    have kids : ∀ (k : Nat) (ns : List (List Nat)) (rs : List (List Row)), ns.length = rs.length → (∀ r ∈ rs, WR d r) → ∀ (b : Bool) (c : Nat) (s : List (Nat × Bool)) (rest : List Row), LOW s.length rest → tel ((c, b) :: s) (lift s.length (kidRows k ns rs) ++ rest) = kT k b ns rs ++ (c :: tel s rest) := by
      intro k ns
      induction ns with
      | nil =>
        intro rs hl _ b c s rest hr
        cases rs with
        | nil => exact tel_close hr
        | cons r rs => simp at hl
      | cons n ns ih =>
        intro rs hl hw b c s rest hr
        cases rs with
        | nil => simp at hl
        | cons r rs =>
          have hwr := hw r List.mem_cons_self
          have hws : ∀ r ∈ rs, WR d r := fun r hm => hw r (List.mem_cons_of_mem _ hm)
          rw [kidRows, lift_app, lift_raise, kid_nm hwr, lift_setNm, List.append_assoc]
          have h1 := (tel_sub d r hwr).1 ((c, b) :: s) (if k = 6 then 0 :: n else []) (lift s.length (kidRows k ns rs) ++ rest) (kids_low ns rs hws s.length rest hr)
          rw [show ((c, b) :: s).length = s.length + 1 from rfl] at h1
          rw [h1, show markS ((c, b) :: s) = (c, true) :: s from rfl, ih rs (by simpa using hl) hws true c s rest hr]
          cases b <;> simp [kT, commaT, List.append_assoc]
    obtain ⟨k, num, rt, ns, rs, e, hl, hk5, hk6, hw⟩ := h
    have main : ∀ (k : Nat) (num : Int) (rt : List Nat) (ns : List (List Nat)) (rs : List (List Row)), rows = (k, 0, num, rt, []) :: kidRows k ns rs → ns.length = rs.length → (∀ r ∈ rs, WR d r) → 5 ≤ k → txt rows = opnK k :: (kT k false ns rs ++ [clsK k]) := by
      intro k num rt ns rs e hl hw h5
      have h1 := kids k ns rs hl hw false (clsK k) [] [] (fun q r e => by cases e)
      rw [show ([] : List (Nat × Bool)).length = 0 from rfl, lift_zero, List.append_nil] at h1
      rw [e, txt, tel]
      have et : tok (k, 0, num, rt, []) = [opnK k] := by
        show (if k ≤ 2 then _ else if k = 3 then _ else if k = 4 then _ else [opnK k]) = _
        rw [if_neg (by omega), if_neg (by omega), if_neg (by omega)]
      rw [et]
      show [] ++ ([] ++ ([] ++ ([opnK k] ++ tel (pushS k []) (kidRows k ns rs)))) = _
      rw [show pushS k [] = [(clsK k, false)] from if_pos h5, h1]
      rfl
    refine ⟨?_, fun k num rt ns rs e hl hw h5 => main k num rt ns rs e hl hw h5⟩
    intro st nm rest hr
    have e2 : setNm nm (lift st.length rows) ++ rest = (k, 0 + st.length, num, rt, nm) :: (lift st.length (kidRows k ns rs) ++ rest) := by rw [e]; rfl
    rw [e2, tel]
    simp only [Nat.zero_add, Nat.sub_self, List.take_zero, List.drop_zero, List.map_nil, List.nil_append]
    have ek : tok (k, st.length, num, rt, nm) = tok (k, 0, num, rt, []) := rfl
    rw [ek]
    by_cases h5 : 5 ≤ k
    · have h1 := kids k ns rs hl hw false (clsK k) (markS st) rest (by rw [mark_len]; exact hr)
      rw [mark_len] at h1
      rw [show pushS k (markS st) = (clsK k, false) :: markS st from if_pos h5, h1, main k num rt ns rs e hl hw h5]
      have et : tok (k, 0, num, rt, []) = [opnK k] := by
        show (if k ≤ 2 then _ else if k = 3 then _ else if k = 4 then _ else [opnK k]) = _
        rw [if_neg (by omega), if_neg (by omega), if_neg (by omega)]
      rw [et]
      simp [List.append_assoc]
    · have er : rs = [] := hk5 (by omega)
      subst er
      have en : ns = [] := List.length_eq_zero_iff.mp hl
      subst en
      have e3 : txt rows = tok (k, 0, num, rt, []) := by
        rw [e, txt]
        show tel [] [(k, 0, num, rt, [])] = _
        rw [tel]
        show [] ++ ([] ++ ([] ++ (tok (k, 0, num, rt, []) ++ tel (pushS k []) []))) = _
        rw [show pushS k [] = [] from if_neg h5]
        simp [tel]
      rw [e3, show pushS k (markS st) = markS st from if_neg h5]
      rfl
theorem txt_branch {d k : Nat} {num : Int} {rt : List Nat} {ns : List (List Nat)} {rs : List (List Row)} (hl : ns.length = rs.length) (hw : ∀ r ∈ rs, WR d r) (h5 : 5 ≤ k) (h6 : k ≤ 6) : txt ((k, 0, num, rt, []) :: kidRows k ns rs) = opnK k :: (kT k false ns rs ++ [clsK k]) :=
  (tel_sub (d + 1) _ ⟨k, num, rt, ns, rs, rfl, hl, fun h => absurd h (by omega), h6, hw⟩).2 k num rt ns rs rfl hl hw h5
theorem txt_leaf {k : Nat} {num : Int} {rt : List Nat} (h5 : k < 5) : txt [(k, 0, num, rt, [])] = tok (k, 0, num, rt, []) := by
  rw [txt, tel]
  show [] ++ ([] ++ ([] ++ (tok (k, 0, num, rt, []) ++ tel (pushS k []) []))) = _
  rw [show pushS k [] = [] from if_neg (by omega)]
  simp [tel]
theorem kT_snoc (k : Nat) : ∀ (b : Bool) (ns : List (List Nat)) (rs : List (List Row)) (n : List Nat) (r : List Row), ns.length = rs.length → kT k b (ns ++ [n]) (rs ++ [r]) = kT k b ns rs ++ ((if b || !rs.isEmpty then [44] else []) ++ (nmT (if k = 6 then 0 :: n else []) ++ txt r))
  | b, [], [], n, r, _ => by cases b <;> simp [kT]
  | b, [], _ :: _, n, r, h => by simp at h
  | b, _ :: _, [], n, r, h => by simp at h
  | b, n0 :: ns, r0 :: rs, n, r, h => by
    have ih := kT_snoc k true ns rs n r (by simpa using h)
    simp only [List.cons_append, kT]
    rw [ih]
    cases b <;> simp [List.append_assoc]
/-- the letters one after the other: how many, and the wanted one -/
def emt (wt : Int32) (q : Int32 × Int32) (c : Nat) : Int32 × Int32 := (q.1 + 1, if q.1 = wt then nI c else q.2)
def emz (wt : Int32) (q : Int32 × Int32) (o : List Nat) : Int32 × Int32 := o.foldl (emt wt) q
theorem emz_app {wt : Int32} {q : Int32 × Int32} (a b : List Nat) : emz wt q (a ++ b) = emz wt (emz wt q a) b := List.foldl_append
theorem emz_one {wt : Int32} {q : Int32 × Int32} {c : Nat} : emz wt q [c] = emt wt q c := rfl
theorem take_ne {α : Type} {rs : List α} {i : Nat} (h : ¬ i = 0) (hl : i < rs.length) : (rs.take i).isEmpty = false := by
  cases hq : rs.take i with
  | nil =>
    have := congrArg List.length hq
    rw [List.length_take, List.length_nil] at this
    omega
  | cons a b => rfl
