/-! the reading of JSON, as functions of the letters that are left: code (0: good, 1: syntax, 2: deep, 3: twice), result, letters left -/
def clsK (k : Nat) : Nat := if k = 5 then 93 else 125
/-- a member behind its opening quote's place: name and value -/
def memR (f : List Nat → Nat × List Row × List Nat) (ns : List (List Nat)) (R : List Nat) : Nat × (List Nat × List Row) × List Nat :=
  if hd0 R = 34 then (match qtd 34 (R.drop 1) with
    | none => (1, ([], []), [])
    | some q => if q.1 ∈ ns then (3, ([], []), []) else if hd0 (skp q.2) = 58 then ((f (skp ((skp q.2).drop 1))).1, (q.1, (f (skp ((skp q.2).drop 1))).2.1), (f (skp ((skp q.2).drop 1))).2.2) else (1, ([], []), []))
  else (1, ([], []), [])
/-- an element or a member -/
def oneR (f : List Nat → Nat × List Row × List Nat) (k : Nat) (ns : List (List Nat)) (R : List Nat) : Nat × (List Nat × List Row) × List Nat :=
  if k = 6 then memR f ns R else ((f R).1, ([], (f R).2.1), (f R).2.2)
def itmR (f : List Nat → Nat × List Row × List Nat) (k : Nat) : Nat → List (List Nat) → List (List Row) → List Nat → Nat × (List (List Nat) × List (List Row)) × List Nat
  | 0, _, _, _ => (1, ([], []), [])
  | n + 1, ns, rs, R =>
    if (oneR f k ns (skp R)).1 = 0 then
      (if hd0 (skp (oneR f k ns (skp R)).2.2) = clsK k then (0, (ns ++ [(oneR f k ns (skp R)).2.1.1], rs ++ [(oneR f k ns (skp R)).2.1.2]), (skp (oneR f k ns (skp R)).2.2).drop 1)
       else if hd0 (skp (oneR f k ns (skp R)).2.2) = 44 then itmR f k n (ns ++ [(oneR f k ns (skp R)).2.1.1]) (rs ++ [(oneR f k ns (skp R)).2.1.2]) ((skp (oneR f k ns (skp R)).2.2).drop 1)
       else (1, ([], []), []))
    else ((oneR f k ns (skp R)).1, ([], []), [])
def brnR (f : List Nat → Nat × List Row × List Nat) (k : Nat) (R : List Nat) : Nat × List Row × List Nat :=
  if hd0 R = clsK k then (0, [(k, 0, 0, [], [])], R.drop 1)
  else if (itmR f k 160 [] [] R).1 = 0 then (0, (k, 0, 0, [], []) :: kidRows k (itmR f k 160 [] [] R).2.1.1 (itmR f k 160 [] [] R).2.1.2, (itmR f k 160 [] [] R).2.2)
  else ((itmR f k 160 [] [] R).1, [], [])
def scaR (R : List Nat) : Nat × List Row × List Nat :=
  if (decide (hd0 R = 45) || isDig (hd0 R)) = true then (match num R with
    | none => (1, [], [])
    | some q => (0, [(3, 0, q.1, [], [])], q.2))
  else (match wrd R with
    | none => (1, [], [])
    | some q => (0, [(wrdK R, 0, 0, [], [])], q))
def strR (R : List Nat) : Nat × List Row × List Nat := match qtd 34 (R.drop 1) with
  | none => (1, [], [])
  | some q => (0, [(4, 0, 0, q.1, [])], q.2)
/-- a value; at most d brackets may still be opened -/
def pv : Nat → List Nat → Nat × List Row × List Nat
  | 0, R => if hd0 R = 34 then strR R else if hd0 R = 91 ∨ hd0 R = 123 then (2, [], []) else scaR R
  | d + 1, R => if hd0 R = 34 then strR R else if hd0 R = 91 ∨ hd0 R = 123 then brnR (pv d) (if hd0 R = 91 then 5 else 6) (skp (R.drop 1)) else scaR R
/-- the letters that a reading takes: all, where it fails -/
def cn3 {α : Type} (R : List Nat) (q : Nat × α × List Nat) : Nat := if q.1 = 0 then R.length - q.2.2.length else R.length
theorem cn3_ok {α : Type} {R R' : List Nat} {x : α} : cn3 R (0, x, R') = R.length - R'.length := rfl
theorem cn3_no {α : Type} {R : List Nat} {q : Nat × α × List Nat} (h : q.1 ≠ 0) : cn3 R q = R.length := if_neg h
theorem skp_le : ∀ R : List Nat, (skp R).length ≤ R.length
  | [] => Nat.le_refl _
  | c :: R => by
    rw [skp]
    split
    · have := skp_le R; simp only [List.length_cons]; omega
    · exact Nat.le_refl _
/-! lists of parts -/
def dmx (rs : List (List Row)) : Nat := rs.foldr (fun r d => max (dpt r) d) 0
def slen (rs : List (List Row)) : Nat := (rs.map List.length).sum
theorem dmx_app (rs : List (List Row)) (r : List Row) : dmx (rs ++ [r]) = max (dmx rs) (dpt r) := by
  induction rs with
  | nil => simp [dmx]
  | cons a rs ih =>
    have e : dmx (a :: rs ++ [r]) = max (dpt a) (dmx (rs ++ [r])) := rfl
    rw [e, ih]
    show _ = max (max (dpt a) (dmx rs)) (dpt r)
    omega
theorem slen_app (rs : List (List Row)) (r : List Row) : slen (rs ++ [r]) = slen rs + r.length := by
  simp [slen]
theorem take_step {α : Type} {xs : List α} {i : Nat} (z : α) (h : i < xs.length) : xs.take (i + 1) = xs.take i ++ [xs.getD i z] := by
  rw [List.take_succ_eq_append_getElem h, List.getD_eq_getElem?_getD, List.getElem?_eq_getElem h]
  rfl
theorem dpt_raise (r : List Row) (h : r ≠ []) : dpt (raise r) = dpt r + 1 := by
  induction r with
  | nil => exact absurd rfl h
  | cons q r ih =>
    have e1 : dpt (raise (q :: r)) = max (q.2.1 + 1 + (if 5 ≤ q.1 then 1 else 0)) (dpt (raise r)) := rfl
    have e2 : dpt (q :: r) = max (q.2.1 + (if 5 ≤ q.1 then 1 else 0)) (dpt r) := rfl
    rw [e1, e2]
    cases r with
    | nil => simp [raise, dpt]; omega
    | cons q2 r2 => rw [ih (by simp)]; omega
theorem dpt_setNm (nm : List Nat) (r : List Row) : dpt (setNm nm r) = dpt r := by
  cases r <;> rfl
theorem setNm_ne {nm : List Nat} {r : List Row} (h : r ≠ []) : setNm nm r ≠ [] := by
  cases r with
  | nil => exact absurd rfl h
  | cons q r => simp [setNm]
theorem dpt_app (a b : List Row) : dpt (a ++ b) = max (dpt a) (dpt b) := by
  induction a with
  | nil => simp [dpt]
  | cons q a ih =>
    have e : dpt (q :: a ++ b) = max (q.2.1 + (if 5 ≤ q.1 then 1 else 0)) (dpt (a ++ b)) := rfl
    rw [e, ih]
    show _ = max (max _ (dpt a)) (dpt b)
    omega
theorem dpt_kids (k : Nat) : ∀ (ns : List (List Nat)) (rs : List (List Row)), ns.length = rs.length → (∀ r ∈ rs, r ≠ []) → dpt (kidRows k ns rs) = if rs = [] then 0 else dmx rs + 1
  | [], [], _, _ => rfl
  | n :: ns, [], h, _ => by simp at h
  | [], r :: rs, h, _ => by simp at h
  | n :: ns, r :: rs, h, hr => by
    have ih := dpt_kids k ns rs (by simpa using h) (fun r hm => hr r (List.mem_cons_of_mem _ hm))
    have hr0 : r ≠ [] := hr r List.mem_cons_self
    have e : dpt (raise (if k = 6 then setNm (0 :: n) r else r)) = dpt r + 1 := by
      split
      · rw [dpt_raise _ (setNm_ne hr0), dpt_setNm]
      · exact dpt_raise _ hr0
    rw [kidRows, dpt_app, e, ih, if_neg (List.cons_ne_nil r rs)]
    have e2 : dmx (r :: rs) = max (dpt r) (dmx rs) := rfl
    rw [e2]
    split
    · next h0 => subst h0; simp [dmx]
    · omega
theorem len_kids (k : Nat) : ∀ (ns : List (List Nat)) (rs : List (List Row)), ns.length = rs.length → (kidRows k ns rs).length = slen rs
  | [], [], _ => rfl
  | n :: ns, [], h => by simp at h
  | [], r :: rs, h => by simp at h
  | n :: ns, r :: rs, h => by
    have ih := len_kids k ns rs (by simpa using h)
    have e : (raise (if k = 6 then setNm (0 :: n) r else r)).length = r.length := by
      rw [raise, List.length_map]
      split
      · cases r <;> rfl
      · rfl
    rw [kidRows, List.length_append, e, ih]
    simp [slen]
theorem VT.ne {cB cO : ClassId} {em : Nat} {aK : Nat → Nat} {d : Nat} {tl : va_W} {a : Nat} {nn : List Nat} {rows : List Row} (h : VT cB cO em aK d tl a nn rows) : rows ≠ [] := by
  cases d with
  | zero => exact h.elim
  | succ d =>
    obtain ⟨_, _, _, _, _, _, _, _, _, _, _, _, _, _, _, _, _, _, _, _, _, _, _, rfl, _⟩ := h
    simp
theorem dmx_le {n : Nat} : ∀ (rs : List (List Row)), (∀ r ∈ rs, dpt r ≤ n) → dmx rs ≤ n
  | [], _ => Nat.zero_le _
  | r :: rs, h => by
    have h1 := h r List.mem_cons_self
    have h2 := dmx_le rs (fun r hr => h r (List.mem_cons_of_mem _ hr))
    show max (dpt r) (dmx rs) ≤ n
    omega
theorem of_getD {α : Type} {xs : List α} {z : α} {P : α → Prop} (h : ∀ i, i < xs.length → P (xs.getD i z)) : ∀ x ∈ xs, P x := by
  intro x hx
  obtain ⟨i, hi, rfl⟩ := List.mem_iff_getElem.mp hx
  have := h i hi
  rwa [List.getD_eq_getElem?_getD, List.getElem?_eq_getElem hi] at this
theorem VT.dle {cB cO : ClassId} {em : Nat} {aK : Nat → Nat} : ∀ {d : Nat} {tl : va_W} {a : Nat} {nn : List Nat} {rows : List Row}, VT cB cO em aK d tl a nn rows → dpt rows ≤ d
  | 0, _, _, _, _, h => h.elim
  | d + 1, tl, a, nn, rows, h => by
    obtain ⟨kd, tx, nu, nm, pa, dp, cn, tt, k, num, rt, xs, ns, rs, h1, h2, h3, h4, h5, h6, h7, h8, h9, rfl, -⟩ := h
    have e : dpt ((k, 0, num, rt, []) :: kidRows k ns rs) = max (0 + (if 5 ≤ k then 1 else 0)) (dpt (kidRows k ns rs)) := rfl
    have hr : ∀ r ∈ rs, r ≠ [] ∧ dpt r ≤ d := of_getD (z := []) (fun i hi => ⟨(h9 i (by omega)).ne, (h9 i (by omega)).dle⟩)
    rw [e, dpt_kids k ns rs (by omega) (fun r hm => (hr r hm).1)]
    have := dmx_le (n := d) rs (fun r hm => (hr r hm).2)
    split <;> split <;> omega
/-- an array or an object, new -/
theorem VT.branch {cB cO : ClassId} {em : Nat} {aK : Nat → Nat} {d : Nat} {tl : va_W} {a nm pa k : Nat} {kd dp cn : Int32} {nn : List Nat} {xs : List Nat} {ns : List (List Nat)} {rs : List (List Row)} (h1 : VAc a kd (aK 0) 0 nm pa dp cn ∈ tl) (h3 : TX cB aK tl nm nn) (h4 : ALz cO em tl pa xs) (hk : (kd = 3 ∧ k = 5) ∨ (kd = 4 ∧ k = 6)) (h6 : ns.length = xs.length) (h7 : rs.length = xs.length) (h9 : ∀ i, i < xs.length → VT cB cO em aK d tl (xs.getD i 0) (ns.getD i []) (rs.getD i [])) (hdp : dp = nI (dmx rs + 1)) (hcn : cn = nI (1 + slen rs)) : VT cB cO em aK (d + 1) tl a nn ((k, 0, 0, [], []) :: kidRows k ns rs) := by
  refine ⟨kd, aK 0, 0, nm, pa, dp, cn, [], k, 0, [], xs, ns, rs, h1, Or.inr ⟨0, by decide, rfl, rfl⟩, h3, h4, ?_, h6, h7, fun h => by rcases hk with ⟨_, hk⟩ | ⟨_, hk⟩ <;> omega, h9, rfl, ?_, ?_⟩
  · rcases hk with ⟨rfl, rfl⟩ | ⟨rfl, rfl⟩
    · exact Or.inr (Or.inr (Or.inr (Or.inl ⟨rfl, rfl, rfl, rfl, rfl, rfl⟩)))
    · exact Or.inr (Or.inr (Or.inr (Or.inr ⟨rfl, rfl, rfl, rfl, rfl, rfl⟩)))
  · have e : dpt ((k, 0, 0, [], []) :: kidRows k ns rs) = max (0 + (if 5 ≤ k then 1 else 0)) (dpt (kidRows k ns rs)) := rfl
    have hr : ∀ r ∈ rs, r ≠ [] := of_getD (z := []) (fun i hi => (h9 i (by omega)).ne)
    rw [hdp, e, dpt_kids k ns rs (by omega) hr]
    congr 1
    have h5 : 5 ≤ k := by rcases hk with ⟨_, hk⟩ | ⟨_, hk⟩ <;> omega
    rw [if_pos h5]
    split
    · next h0 => subst h0; simp [dmx]
    · omega
  · rw [hcn, List.length_cons, len_kids k ns rs (by omega)]
    congr 1
    omega
