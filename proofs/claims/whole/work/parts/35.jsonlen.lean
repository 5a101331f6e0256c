/-! the reading of JSON goes forward -/
theorem pv_str {d : Nat} {R : List Nat} (h : hd0 R = 34) : pv d R = strR R := by
  cases d <;> rw [pv, if_pos h]
theorem pv_sca {d : Nat} {R : List Nat} (h1 : ¬ hd0 R = 34) (h2 : ¬ (hd0 R = 91 ∨ hd0 R = 123)) : pv d R = scaR R := by
  cases d <;> rw [pv, if_neg h1, if_neg h2]
theorem pv_deep {R : List Nat} (h1 : ¬ hd0 R = 34) (h2 : hd0 R = 91 ∨ hd0 R = 123) : pv 0 R = (2, [], []) := by
  rw [pv, if_neg h1, if_pos h2]
theorem pv_brn {d : Nat} {R : List Nat} (h1 : ¬ hd0 R = 34) (h2 : hd0 R = 91 ∨ hd0 R = 123) : pv (d + 1) R = brnR (pv d) (if hd0 R = 91 then 5 else 6) (skp (R.drop 1)) := by
  rw [pv, if_neg h1, if_pos h2]
/-- a reading that goes forward -/
def Fwd {α : Type} (f : List Nat → Nat × α × List Nat) : Prop := ∀ R, (f R).1 = 0 → (f R).2.2.length < R.length
theorem hd0_pos {R : List Nat} (h : hd0 R ≠ 0) : 0 < R.length := by
  cases R with
  | nil => exact absurd rfl h
  | cons c R => simp
theorem strR_lt (R : List Nat) (h0 : hd0 R = 34) (h : (strR R).1 = 0) : (strR R).2.2.length < R.length := by
  have hp : 0 < R.length := hd0_pos (by omega)
  unfold strR at h ⊢
  cases hq : qtd 34 (R.drop 1) with
  | none => rw [hq] at h; exact absurd h Nat.one_ne_zero
  | some q =>
    have := qtd_lt _ (R.drop 1) (Nat.le_refl _) q hq
    rw [List.length_drop] at this
    show q.2.length < _
    omega
theorem numR_lt (mi : Bool) (R : List Nat) (q : Int × List Nat) (h : numR mi R = some q) : q.2.length < R.length := by
  unfold numR at h
  split at h
  · next h0 =>
    cases h
    have : 0 < R.length := hd0_pos (by omega)
    show (R.drop 1).length < _
    rw [List.length_drop]; omega
  · split at h
    · next h0 h1 =>
      have hp : 0 < R.length := hd0_pos (fun h2 => by rw [h2] at h1; exact absurd h1 (by decide))
      cases R with
      | nil => exact absurd hp (Nat.lt_irrefl _)
      | cons c R =>
        have hc : isDig c = true := h1
        rw [numD, if_pos hc] at h
        split at h
        · cases h
        · cases hq : numD R (10 * 0 + (c - 48)) with
          | none => rw [hq] at h; cases h
          | some z =>
            have hz := numD_le R _ z hq
            rw [hq] at h
            obtain ⟨v, R2⟩ := z
            simp only [numF] at h
            simp only [List.length_cons]
            split at h
            · cases h; exact Nat.lt_succ_of_le hz
            · split at h
              · cases h
              · cases h; exact Nat.lt_succ_of_le hz
    · cases h
theorem num_lt (R : List Nat) (q : Int × List Nat) (h : num R = some q) : q.2.length < R.length := by
  unfold num at h
  split at h
  · have := numR_lt _ _ _ h
    rw [List.length_drop] at this; omega
  · exact numR_lt _ _ _ h
theorem pfx_len : ∀ (ws R R' : List Nat), pfx ws R = some R' → R'.length + ws.length = R.length
  | [], R, R', h => by rw [pfx] at h; cases h; rfl
  | w :: ws, [], R', h => by rw [pfx] at h; cases h
  | w :: ws, c :: R, R', h => by
    rw [pfx] at h
    split at h
    · have := pfx_len ws R R' h
      simp only [List.length_cons]; omega
    · cases h
theorem wrd_lt (R R' : List Nat) (h : wrd R = some R') : R'.length < R.length := by
  have h1 := pfx_len _ _ _ h
  have h2 : ∀ k, k < 3 → 0 < (LTx.getD (k + 2) []).length := by decide
  have h3 : wrdK R < 3 := by unfold wrdK; split <;> (try split) <;> decide
  have := h2 _ h3
  omega
theorem scaR_lt (R : List Nat) (h : (scaR R).1 = 0) : (scaR R).2.2.length < R.length := by
  unfold scaR at h ⊢
  split
  · next h0 =>
    rw [if_pos h0] at h
    cases hq : num R with
    | none => rw [hq] at h; exact absurd h Nat.one_ne_zero
    | some q => exact num_lt R q hq
  · next h0 =>
    rw [if_neg h0] at h
    cases hq : wrd R with
    | none => rw [hq] at h; exact absurd h Nat.one_ne_zero
    | some q => exact wrd_lt R q hq
theorem memR_lt {f : List Nat → Nat × List Row × List Nat} (hf : Fwd f) (ns : List (List Nat)) : Fwd (memR f ns) := by
  intro R h
  unfold memR at h ⊢
  split
  · next h0 =>
    rw [if_pos h0] at h
    have hp : 0 < R.length := hd0_pos (by omega)
    cases hq : qtd 34 (R.drop 1) with
    | none => rw [hq] at h; exact absurd h Nat.one_ne_zero
    | some q =>
      have h1 := qtd_lt _ (R.drop 1) (Nat.le_refl _) q hq
      rw [List.length_drop] at h1
      rw [hq] at h
      simp only at h ⊢
      split
      · next h2 => rw [if_pos h2] at h; exact absurd h (by decide)
      · next h2 =>
        rw [if_neg h2] at h
        split
        · next h3 =>
          rw [if_pos h3] at h
          have h4 := hf _ h
          have h5 := skp_le ((skp q.2).drop 1)
          have h6 := skp_le q.2
          rw [List.length_drop] at h5
          simp only
          omega
        · next h3 => rw [if_neg h3] at h; exact absurd h (by decide)
  · next h0 => rw [if_neg h0] at h; exact absurd h (by decide)
theorem oneR_lt {f : List Nat → Nat × List Row × List Nat} (hf : Fwd f) (k : Nat) (ns : List (List Nat)) : Fwd (oneR f k ns) := by
  intro R h
  unfold oneR at h ⊢
  split
  · next h0 => rw [if_pos h0] at h; exact memR_lt hf ns R h
  · next h0 => rw [if_neg h0] at h; exact hf R h
theorem itmR_lt {f : List Nat → Nat × List Row × List Nat} (hf : Fwd f) (k : Nat) : ∀ (n : Nat) (ns : List (List Nat)) (rs : List (List Row)) (R : List Nat), (itmR f k n ns rs R).1 = 0 → (itmR f k n ns rs R).2.2.length < R.length ∧ (itmR f k n ns rs R).2.2.length ≤ (oneR f k ns (skp R)).2.2.length ∧ (oneR f k ns (skp R)).1 = 0
  | 0, _, _, _, h => absurd h (by rw [itmR]; decide)
  | n + 1, ns, rs, R, h => by
    rw [itmR] at h ⊢
    split
    · next h0 =>
      rw [if_pos h0] at h
      have h1 := oneR_lt hf k ns (skp R) h0
      have h2 := skp_le R
      have h3 := skp_le (oneR f k ns (skp R)).2.2
      split
      · next h4 =>
        simp only [List.length_drop]
        exact ⟨by omega, by omega, h0⟩
      · next h4 =>
        rw [if_neg h4] at h
        split
        · next h5 =>
          rw [if_pos h5] at h
          have h6 := (itmR_lt hf k n _ _ _ h).1
          rw [List.length_drop] at h6
          exact ⟨by omega, by omega, h0⟩
        · next h5 => rw [if_neg h5] at h; exact absurd h (by decide)
    · next h0 => rw [if_neg h0] at h; exact absurd h h0
theorem brnR_lt {f : List Nat → Nat × List Row × List Nat} (hf : Fwd f) (k : Nat) : Fwd (brnR f k) := by
  intro R h
  unfold brnR at h ⊢
  split
  · next h0 =>
    have hp : 0 < R.length := hd0_pos (by rw [h0, clsK]; split <;> decide)
    show (R.drop 1).length < _
    rw [List.length_drop]; omega
  · next h0 =>
    rw [if_neg h0] at h
    split
    · next h1 => exact (itmR_lt hf k 160 [] [] R h1).1
    · next h1 => rw [if_neg h1] at h; exact absurd h h1
theorem pv_lt : ∀ d, Fwd (pv d)
  | 0 => fun R h => by
    by_cases h1 : hd0 R = 34
    · rw [pv_str h1] at h ⊢; exact strR_lt R h1 h
    · by_cases h2 : hd0 R = 91 ∨ hd0 R = 123
      · rw [pv_deep h1 h2] at h; exact absurd h (by decide)
      · rw [pv_sca h1 h2] at h ⊢; exact scaR_lt R h
  | d + 1 => fun R h => by
    by_cases h1 : hd0 R = 34
    · rw [pv_str h1] at h ⊢; exact strR_lt R h1 h
    · by_cases h2 : hd0 R = 91 ∨ hd0 R = 123
      · rw [pv_brn h1 h2] at h ⊢
        have h3 := brnR_lt (pv_lt d) _ _ h
        have h4 := skp_le (R.drop 1)
        rw [List.length_drop] at h4
        omega
      · rw [pv_sca h1 h2] at h ⊢; exact scaR_lt R h
/-- costs: a reading inside another -/
theorem cn3_in {α β : Type} {R0 R1 : List Nat} {q0 : Nat × α × List Nat} {q1 : Nat × β × List Nat} (h1 : q1.1 ≠ 0 → q0.1 ≠ 0) (h2 : q0.1 = 0 → q0.2.2.length ≤ q1.2.2.length) (h3 : q1.1 = 0 → q1.2.2.length ≤ R1.length) (h4 : R1.length ≤ R0.length) : cn3 R1 q1 + (R0.length - R1.length) ≤ cn3 R0 q0 := by
  unfold cn3
  by_cases ha : q1.1 = 0
  · have h5 := h3 ha
    rw [if_pos ha]
    split
    · next hb => have := h2 hb; omega
    · omega
  · rw [if_neg ha, if_neg (h1 ha)]; omega
theorem itm_cost {f : List Nat → Nat × List Row × List Nat} (hf : Fwd f) {k n : Nat} {ns : List (List Nat)} {rs : List (List Row)} {R R0 : List Nat} (hl : (skp R).length ≤ R0.length) : cn3 (skp R) (oneR f k ns (skp R)) + (R0.length - (skp R).length) ≤ cn3 R0 (itmR f k (n + 1) ns rs R) :=
  cn3_in (fun h h2 => h (itmR_lt hf k (n + 1) ns rs R h2).2.2) (fun h => (itmR_lt hf k (n + 1) ns rs R h).2.1) (fun h => Nat.le_of_lt (oneR_lt hf k ns (skp R) h)) hl
theorem cn3_brn {f : List Nat → Nat × List Row × List Nat} {k : Nat} {R : List Nat} (h : ¬ hd0 R = clsK k) : cn3 R (brnR f k R) = cn3 R (itmR f k 160 [] [] R) := by
  unfold brnR
  rw [if_neg h]
  by_cases h1 : (itmR f k 160 [] [] R).1 = 0
  · rw [if_pos h1]
    unfold cn3
    rw [if_pos h1]
    rfl
  · rw [if_neg h1]
    unfold cn3
    rw [if_neg h1]
    rw [if_neg h1]
theorem one5 {f : List Nat → Nat × List Row × List Nat} {ns : List (List Nat)} {R : List Nat} : oneR f 5 ns R = ((f R).1, ([], (f R).2.1), (f R).2.2) := rfl
theorem one6 {f : List Nat → Nat × List Row × List Nat} {ns : List (List Nat)} {R : List Nat} : oneR f 6 ns R = memR f ns R := rfl
theorem cn3_one5 {f : List Nat → Nat × List Row × List Nat} {ns : List (List Nat)} {R : List Nat} : cn3 R (oneR f 5 ns R) = cn3 R (f R) := rfl
theorem memR_none {f : List Nat → Nat × List Row × List Nat} {ns : List (List Nat)} {R : List Nat} (h : hd0 R = 34) (hq : qtd 34 (R.drop 1) = none) : memR f ns R = (1, ([], []), []) := by
  rw [memR, if_pos h, hq]
theorem memR_no {f : List Nat → Nat × List Row × List Nat} {ns : List (List Nat)} {R : List Nat} (h : ¬ hd0 R = 34) : memR f ns R = (1, ([], []), []) := by
  rw [memR, if_neg h]
theorem memR_some {f : List Nat → Nat × List Row × List Nat} {ns : List (List Nat)} {R R1 tx : List Nat} (h : hd0 R = 34) (hq : qtd 34 (R.drop 1) = some (tx, R1)) : memR f ns R = if tx ∈ ns then (3, ([], []), []) else if hd0 (skp R1) = 58 then ((f (skp ((skp R1).drop 1))).1, (tx, (f (skp ((skp R1).drop 1))).2.1), (f (skp ((skp R1).drop 1))).2.2) else (1, ([], []), []) := by
  rw [memR, if_pos h, hq]
theorem mem_cost1 {f : List Nat → Nat × List Row × List Nat} (hf : Fwd f) {ns : List (List Nat)} {R : List Nat} (h : hd0 R = 34) : cns (R.drop 1) (qtd 34 (R.drop 1)) ≤ cn3 R (memR f ns R) := by
  cases hq : qtd 34 (R.drop 1) with
  | none =>
    rw [memR_none h hq]
    show (R.drop 1).length ≤ R.length
    rw [List.length_drop]; omega
  | some q =>
    obtain ⟨tx, R1⟩ := q
    have hl := qtd_lt _ (R.drop 1) (Nat.le_refl _) _ hq
    rw [List.length_drop] at hl
    show (R.drop 1).length - R1.length ≤ _
    rw [List.length_drop]
    unfold cn3
    split
    · next h0 =>
      have h1 := h0
      rw [memR_some h hq] at h1 ⊢
      by_cases h2 : tx ∈ ns
      · rw [if_pos h2] at h1; exact absurd h1 (by decide)
      · rw [if_neg h2] at h1 ⊢
        by_cases h3 : hd0 (skp R1) = 58
        · rw [if_pos h3] at h1 ⊢
          have h4 := hf _ h1
          have h5 := skp_le ((skp R1).drop 1)
          have h6 := skp_le R1
          rw [List.length_drop] at h5
          simp only at hl ⊢
          omega
        · rw [if_neg h3] at h1; exact absurd h1 Nat.one_ne_zero
    · omega
theorem pm1 {α : Type} (a b c e : List α) : (b ++ ((a ++ c) ++ e)).Perm (a ++ (b ++ (c ++ e))) := by
  rw [List.append_assoc]
  exact List.perm_append_comm_assoc b a (c ++ e)
theorem pm2 {α : Type} (a b c : List α) : ((a ++ b) ++ c).Perm (a ++ (b ++ c)) := by
  rw [List.append_assoc]
theorem VT.cellN {cB cO : ClassId} {em : Nat} {aK : Nat → Nat} {d : Nat} {tl : va_W} {a : Nat} {nn : List Nat} {rows : List Row} (h : VT cB cO em aK d tl a nn rows) : ∃ (kd : Int32) (tx : Nat) (nu : Int64) (nm pa : Nat) (dp cn : Int32), VAc a kd tx nu nm pa dp cn ∈ tl ∧ TX cB aK tl nm nn := by
  cases d with
  | zero => exact h.elim
  | succ d =>
    obtain ⟨kd, tx, nu, nm, pa, dp, cn, _, _, _, _, _, _, _, h1, _, h3, _⟩ := h
    exact ⟨kd, tx, nu, nm, pa, dp, cn, h1, h3⟩
theorem VT.vin {cB cO : ClassId} {em : Nat} {aK : Nat → Nat} {d : Nat} {tl : va_W} {a : Nat} {nn : List Nat} {rows : List Row} (h : VT cB cO em aK d tl a nn rows) : Vin 3 tl a := by
  obtain ⟨_, _, _, _, _, _, _, h1, _⟩ := h.cellN
  exact ⟨_, h1⟩
/-- the same value under another name: a copy of its cell -/
theorem VT.renamed {cB cO : ClassId} {em : Nat} {aK : Nat → Nat} {d : Nat} {tl : va_W} {a : Nat} {nn : List Nat} {rows : List Row} (h : VT cB cO em aK d tl a nn rows) : ∃ (kd : Int32) (tx : Nat) (nu : Int64) (nm pa : Nat) (dp cn : Int32), VAc a kd tx nu nm pa dp cn ∈ tl ∧ ∀ (tl' : va_W) (b n2 : Nat) (n3 : List Nat), (∀ q ∈ tl, q ∈ tl') → VAc b kd tx nu n2 pa dp cn ∈ tl' → TX cB aK tl' n2 n3 → VT cB cO em aK d tl' b n3 rows := by
  cases d with
  | zero => exact h.elim
  | succ d =>
    obtain ⟨kd, tx, nu, nm, pa, dp, cn, tt, k, num, rt, xs, ns, rs, h1, h2, h3, h4, h5, h6, h7, h8, h9, h10⟩ := h
    exact ⟨kd, tx, nu, nm, pa, dp, cn, h1, fun tl' b n2 n3 hs hb ht => ⟨kd, tx, nu, n2, pa, dp, cn, tt, k, num, rt, xs, ns, rs, hb, h2.mono hs, ht, h4.mono hs, h5, h6, h7, h8, fun i hi => (h9 i hi).mono hs, h10⟩⟩
theorem Oci3 : Oci 3 := ⟨"PatchStore$Value", T_VA, 7, rfl, List.mem_of_getElem? (i := 24) rfl⟩
