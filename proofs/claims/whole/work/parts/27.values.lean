/-! values as frozen cells; a document is a flat list of rows: kind, level, number, text, name -/
abbrev Row := Nat × Nat × Int × List Nat × List Nat
/-- the capacity of a list that grew by n adds; the cells and slots that were made for it -/
def acap (n : Nat) : Nat := if n = 0 then 0 else if n ≤ 10 then 10 else if n ≤ 15 then 15 else if n ≤ 22 then 22 else if n ≤ 33 then 33 else if n ≤ 49 then 49 else if n ≤ 73 then 73 else if n ≤ 109 then 109 else 163
def acl (n : Nat) : Nat := if n = 0 then 0 else if n ≤ 10 then 1 else if n ≤ 15 then 2 else if n ≤ 22 then 3 else if n ≤ 33 then 4 else if n ≤ 49 then 5 else if n ≤ 73 then 6 else if n ≤ 109 then 7 else 8
def asl (n : Nat) : Nat := if n = 0 then 0 else if n ≤ 10 then 10 else if n ≤ 15 then 25 else if n ≤ 22 then 47 else if n ≤ 33 then 80 else if n ≤ 49 then 129 else if n ≤ 73 then 202 else if n ≤ 109 then 311 else 474
/-- a list of objects, frozen -/
def ALz (cO : ClassId) (em : Nat) (tl : va_W) (pa : Nat) (xs : List Nat) : Prop := xs.length ≤ 160 ∧ ∃ mo : Int32, (xs = [] ∧ (pa, Sum.inr (14, [Value.ref em, Value.int 0, Value.int mo])) ∈ tl) ∨ (xs ≠ [] ∧ ∃ (ed : Nat) (f : Nat → Option Nat), (pa, Sum.inr (14, [Value.ref ed, Value.int (nI xs.length), Value.int mo])) ∈ tl ∧ (ed, Sum.inl (cO, acap xs.length, Sum.inr (Sum.inr (Sum.inr (Sum.inr f))))) ∈ tl ∧ ∀ i, i < xs.length → f i = some (xs.getD i 0))
theorem ALz.mono {cO : ClassId} {em : Nat} {tl tl' : va_W} {pa : Nat} {xs : List Nat} (h : ALz cO em tl pa xs) (hs : ∀ q ∈ tl, q ∈ tl') : ALz cO em tl' pa xs := by
  obtain ⟨h0, mo, ⟨h1, h2⟩ | ⟨h1, ed, f, h2, h3, h4⟩⟩ := h
  · exact ⟨h0, mo, Or.inl ⟨h1, hs _ h2⟩⟩
  · exact ⟨h0, mo, Or.inr ⟨h1, ed, f, hs _ h2, hs _ h3, h4⟩⟩
/-- the cell of a Value -/
def VAc (a : Nat) (kd : Int32) (tx : Nat) (nu : Int64) (nm pa : Nat) (dp cn : Int32) : Nat × va_E := (a, Sum.inr (3, [Value.int kd, Value.ref tx, Value.long nu, Value.ref nm, Value.ref pa, Value.int dp, Value.int cn]))
/-- the decimal digits of a number -/
def digs (n : Nat) : List Nat := if n < 10 then [48 + n] else digs (n / 10) ++ [48 + n % 10]
termination_by n
def dec (z : Int) : List Nat := if z < 0 then 45 :: digs z.natAbs else digs z.natAbs
/-- class's kind, text, number against the row's kind, number, text -/
def HDr (kd : Int32) (tt : List Nat) (nu : Int64) (k : Nat) (num : Int) (tx : List Nat) : Prop :=
  (kd = 0 ∧ k ≤ 2 ∧ tt = LTx.getD (k + 2) [] ∧ num = 0 ∧ tx = [] ∧ nu = 0) ∨
  (kd = 1 ∧ k = 3 ∧ tt = dec num ∧ tx = [] ∧ nu = Int64.ofInt num ∧ -2 ^ 63 ≤ num ∧ num < 2 ^ 63) ∨
  (kd = 2 ∧ k = 4 ∧ tt = tx ∧ num = 0 ∧ nu = 0) ∨
  (kd = 3 ∧ k = 5 ∧ tt = [] ∧ num = 0 ∧ tx = [] ∧ nu = 0) ∨
  (kd = 4 ∧ k = 6 ∧ tt = [] ∧ num = 0 ∧ tx = [] ∧ nu = 0)
def raise (rows : List Row) : List Row := rows.map (fun q => (q.1, q.2.1 + 1, q.2.2))
def setNm (nm : List Nat) (rows : List Row) : List Row := match rows with
  | [] => []
  | q :: rs => (q.1, q.2.1, q.2.2.1, q.2.2.2.1, nm) :: rs
/-- the rows of an array's or object's parts; a member's name stands behind a 0, an element has none -/
def kidRows (k : Nat) : List (List Nat) → List (List Row) → List Row
  | n :: ns, r :: rs => raise (if k = 6 then setNm (0 :: n) r else r) ++ kidRows k ns rs
  | _, _ => []
/-- the depth of a document -/
def dpt (rows : List Row) : Nat := rows.foldr (fun q d => max (q.2.1 + (if 5 ≤ q.1 then 1 else 0)) d) 0
/-- the Value at a, with its name, has these rows (at most d levels) -/
def VT (cB cO : ClassId) (em : Nat) (aK : Nat → Nat) : Nat → va_W → Nat → List Nat → List Row → Prop
  | 0, _, _, _, _ => False
  | d + 1, tl, a, nn, rows => ∃ (kd : Int32) (tx : Nat) (nu : Int64) (nm pa : Nat) (dp cn : Int32) (tt : List Nat) (k : Nat) (num : Int) (rt : List Nat) (xs : List Nat) (ns : List (List Nat)) (rs : List (List Row)),
      VAc a kd tx nu nm pa dp cn ∈ tl ∧ TX cB aK tl tx tt ∧ TX cB aK tl nm nn ∧ ALz cO em tl pa xs ∧ HDr kd tt nu k num rt ∧ ns.length = xs.length ∧ rs.length = xs.length ∧ (k < 5 → xs = []) ∧
      (∀ i, i < xs.length → VT cB cO em aK d tl (xs.getD i 0) (ns.getD i []) (rs.getD i [])) ∧
      rows = (k, 0, num, rt, []) :: kidRows k ns rs ∧ dp = nI (dpt rows) ∧ cn = nI rows.length
theorem VT.mono {cB cO : ClassId} {em : Nat} {aK : Nat → Nat} : ∀ {d : Nat} {tl tl' : va_W} {a : Nat} {nn : List Nat} {rows : List Row}, VT cB cO em aK d tl a nn rows → (∀ q ∈ tl, q ∈ tl') → VT cB cO em aK d tl' a nn rows
  | 0, _, _, _, _, _, h, _ => h.elim
  | d + 1, tl, tl', a, nn, rows, h, hs => by
    obtain ⟨kd, tx, nu, nm, pa, dp, cn, tt, k, num, rt, xs, ns, rs, h1, h2, h3, h4, h5, h6, h7, h8, h9, h10⟩ := h
    exact ⟨kd, tx, nu, nm, pa, dp, cn, tt, k, num, rt, xs, ns, rs, hs _ h1, h2.mono hs, h3.mono hs, h4.mono hs, h5, h6, h7, h8, fun i hi => (h9 i hi).mono hs, h10⟩
theorem VT.up {cB cO : ClassId} {em : Nat} {aK : Nat → Nat} : ∀ {d e : Nat} {tl : va_W} {a : Nat} {nn : List Nat} {rows : List Row}, VT cB cO em aK d tl a nn rows → d ≤ e → VT cB cO em aK e tl a nn rows
  | 0, _, _, _, _, _, h, _ => h.elim
  | d + 1, 0, _, _, _, _, _, h => absurd h (Nat.not_succ_le_zero d)
  | d + 1, e + 1, tl, a, nn, rows, h, hd => by
    obtain ⟨kd, tx, nu, nm, pa, dp, cn, tt, k, num, rt, xs, ns, rs, h1, h2, h3, h4, h5, h6, h7, h8, h9, h10⟩ := h
    exact ⟨kd, tx, nu, nm, pa, dp, cn, tt, k, num, rt, xs, ns, rs, h1, h2, h3, h4, h5, h6, h7, h8, fun i hi => (h9 i hi).up (Nat.le_of_succ_le_succ hd), h10⟩
/-- a scalar value, new -/
theorem VT.scalar {cB cO : ClassId} {em : Nat} {aK : Nat → Nat} {tl : va_W} {a tx nm pa k : Nat} {kd mo : Int32} {nu : Int64} {num : Int} {tt nn rt : List Nat} (h1 : VAc a kd tx nu nm pa 0 1 ∈ tl) (h2 : TX cB aK tl tx tt) (h3 : TX cB aK tl nm nn) (h4 : (pa, Sum.inr (14, [Value.ref em, Value.int 0, Value.int mo])) ∈ tl) (h5 : HDr kd tt nu k num rt) (hk : k < 5) : VT cB cO em aK 1 tl a nn [(k, 0, num, rt, [])] :=
  ⟨kd, tx, nu, nm, pa, 0, 1, tt, k, num, rt, [], [], [], h1, h2, h3, ⟨by simp, mo, Or.inl ⟨rfl, h4⟩⟩, h5, rfl, rfl, fun _ => rfl, fun i hi => absurd hi (Nat.not_lt_zero _), rfl, by
    have : dpt [(k, 0, num, rt, [])] = 0 := by simp [dpt]; omega
    rw [this]; rfl, rfl⟩
theorem digs_step {n d : Nat} (hn : 1 ≤ n) (hd : d < 10) : digs (10 * n + d) = digs n ++ [48 + d] := by
  rw [digs, if_neg (by omega), show (10 * n + d) / 10 = n by omega, show (10 * n + d) % 10 = d by omega]
theorem digs_one {d : Nat} (hd : d < 10) : digs d = [48 + d] := by rw [digs, if_pos hd]
/-- a word ahead -/
def pfx : List Nat → List Nat → Option (List Nat)
  | [], R => some R
  | _ :: _, [] => none
  | w :: ws, c :: R => if c = w then pfx ws R else none
/-- which word may stand here: null, true or false -/
def wrdK (R : List Nat) : Nat := if R.getD 0 0 = 110 then 0 else if R.getD 0 0 = 116 then 1 else 2
def wrd (R : List Nat) : Option (List Nat) := pfx (LTx.getD (wrdK R + 2) []) R
theorem lit_pos : ∀ i, i < 16 → ∀ j, j < (LTx.getD i []).length → 0 < (LTx.getD i []).getD j 0 := by decide +kernel
