theorem tlS_snoc (rs : List (List Row)) (r : List Row) : tlS (rs ++ [r]) = tlS rs + tln r := by rw [tlS_app]; simp [tlS]
/-- a reading takes more letters than its texts have -/
def Tlc (f : List Nat → Nat × List Row × List Nat) : Prop := ∀ R, (f R).1 = 0 → tln (f R).2.1 + (f R).2.2.length ≤ R.length
theorem one_tlc {f : List Nat → Nat × List Row × List Nat} (hc : Tlc f) (k : Nat) (ns : List (List Nat)) (R : List Nat) (h : (oneR f k ns R).1 = 0) : tln (oneR f k ns R).2.1.2 + (oneR f k ns R).2.2.length ≤ R.length := by
  unfold oneR at h ⊢
  split
  · next h0 =>
    rw [if_pos h0] at h
    unfold memR at h ⊢
    split
    · next h1 =>
      rw [if_pos h1] at h
      cases hq : qtd 34 (R.drop 1) with
      | none => rw [hq] at h; exact absurd h Nat.one_ne_zero
      | some q =>
        have hl := qtd_lt _ (R.drop 1) (Nat.le_refl _) q hq
        rw [List.length_drop] at hl
        rw [hq] at h
        simp only at h ⊢
        split
        · next h2 => rw [if_pos h2] at h; exact absurd h (by decide)
        · next h2 =>
          rw [if_neg h2] at h
          split
          · next h3 =>
            rw [if_pos h3] at h
            have h4 := hc _ h
            have h5 := skp_le ((skp q.2).drop 1)
            have h6 := skp_le q.2
            rw [List.length_drop] at h5
            simp only
            omega
          · next h3 => rw [if_neg h3] at h; exact absurd h Nat.one_ne_zero
    · next h1 => rw [if_neg h1] at h; exact absurd h Nat.one_ne_zero
  · next h0 => rw [if_neg h0] at h; exact hc R h
theorem itm_tlc {f : List Nat → Nat × List Row × List Nat} (hc : Tlc f) (k : Nat) : ∀ (n : Nat) (ns : List (List Nat)) (rs : List (List Row)) (R : List Nat), ns.length = rs.length → (itmR f k n ns rs R).1 = 0 → (itmR f k n ns rs R).2.1.1.length = (itmR f k n ns rs R).2.1.2.length ∧ tlS (itmR f k n ns rs R).2.1.2 + (itmR f k n ns rs R).2.2.length + 1 ≤ tlS rs + R.length
  | 0, _, _, _, _, h => absurd h (by rw [itmR]; decide)
  | n + 1, ns, rs, R, hl, h => by
    rw [itm_succ] at h ⊢
    split
    · next h0 =>
      rw [if_pos h0] at h
      have h1 := one_tlc hc k ns (skp R) h0
      have h2 := skp_le R
      have h3 := skp_le (oneR f k ns (skp R)).2.2
      split
      · next h4 =>
        have hp : 0 < (skp (oneR f k ns (skp R)).2.2).length := hd0_pos (by rw [h4, clsK]; split <;> decide)
        simp only [tlS_snoc, List.length_append, List.length_singleton, List.length_drop]
        exact ⟨by omega, by omega⟩
      · next h4 =>
        rw [if_neg h4] at h
        split
        · next h5 =>
          rw [if_pos h5] at h
          have hp : 0 < (skp (oneR f k ns (skp R)).2.2).length := hd0_pos (by omega)
          have h6 := itm_tlc hc k n _ _ _ (by simp [hl]) h
          rw [tlS_snoc, List.length_drop] at h6
          exact ⟨h6.1, by omega⟩
        · next h5 => rw [if_neg h5] at h; exact absurd h Nat.one_ne_zero
    · next h0 => rw [if_neg h0] at h; exact absurd h h0
theorem brn_tlc {f : List Nat → Nat × List Row × List Nat} (hc : Tlc f) (k : Nat) : Tlc (brnR f k) := by
  intro R h
  unfold brnR at h ⊢
  split
  · next h0 =>
    have hp : 0 < R.length := hd0_pos (by rw [h0, clsK]; split <;> decide)
    show 0 + (R.drop 1).length ≤ _
    rw [List.length_drop]; omega
  · next h0 =>
    rw [if_neg h0] at h
    split
    · next h1 =>
      have h2 := itm_tlc hc k 160 [] [] R rfl h1
      show 0 + tln (kidRows k _ _) + _ ≤ _
      rw [tln_kids k _ _ h2.1]
      have h3 := h2.2
      simp only [tlS, List.map_nil, List.sum_nil, Nat.zero_add] at h3 ⊢
      omega
    · next h1 => rw [if_neg h1] at h; exact absurd h h1
theorem str_tlc (R : List Nat) (h0 : hd0 R = 34) (h : (strR R).1 = 0) : tln (strR R).2.1 + (strR R).2.2.length ≤ R.length := by
  have h1 := strR_lt R h0 h
  unfold strR at h h1 ⊢
  cases hq : qtd 34 (R.drop 1) with
  | none => rw [hq] at h; exact absurd h Nat.one_ne_zero
  | some q =>
    have h9 := (qtd_len _ _ (Nat.le_refl _) _ hq).1
    rw [List.length_drop] at h9
    show q.1.length + 0 + q.2.length ≤ _
    omega
theorem sca_tlc (R : List Nat) (h : (scaR R).1 = 0) : tln (scaR R).2.1 + (scaR R).2.2.length ≤ R.length := by
  have h1 := scaR_lt R h
  unfold scaR at h h1 ⊢
  split
  · next h0 =>
    rw [if_pos h0] at h h1
    cases hq : num R with
    | none => rw [hq] at h; exact absurd h Nat.one_ne_zero
    | some q => rw [hq] at h1; show 0 + q.2.length ≤ _; simp only at h1; omega
  · next h0 =>
    rw [if_neg h0] at h h1
    cases hq : wrd R with
    | none => rw [hq] at h; exact absurd h Nat.one_ne_zero
    | some q => rw [hq] at h1; show 0 + q.length ≤ _; simp only at h1; omega
theorem pv_tlc : ∀ d, Tlc (pv d)
  | 0 => fun R h => by
    by_cases h1 : hd0 R = 34
    · rw [pv_str h1] at h ⊢; exact str_tlc R h1 h
    · by_cases h2 : hd0 R = 91 ∨ hd0 R = 123
      · rw [pv_deep h1 h2] at h; exact absurd h (by decide)
      · rw [pv_sca h1 h2] at h ⊢; exact sca_tlc R h
  | d + 1 => fun R h => by
    by_cases h1 : hd0 R = 34
    · rw [pv_str h1] at h ⊢; exact str_tlc R h1 h
    · by_cases h2 : hd0 R = 91 ∨ hd0 R = 123
      · rw [pv_brn h1 h2] at h ⊢
        have h3 := brn_tlc (pv_tlc d) _ _ h
        have h4 := skp_le (R.drop 1)
        rw [List.length_drop] at h4
        omega
      · rw [pv_sca h1 h2] at h ⊢; exact sca_tlc R h
theorem whl_tlc (d : Nat) (L : List Nat) : tln (whl d L).2 ≤ L.length := by
  unfold whl
  split
  · next h =>
    split
    · have h1 := pv_tlc d _ h
      have h2 := skp_le L
      show tln (pv d (skp L)).2.1 ≤ _
      omega
    · exact Nat.zero_le _
  · exact Nat.zero_le _
theorem ptr_len {tx : List Nat} {ss : List (List Nat)} (h : ptr tx = some ss) : ss.length ≤ tx.length := by
  rw [ptr_txt h]
  clear h
  induction ss with
  | nil => exact Nat.zero_le _
  | cons s ss ih =>
    show ss.length + 1 ≤ ((47 :: s.flatMap encC) ++ ptx ss).length
    rw [List.length_append, List.length_cons]
    omega
theorem mb_len {d : Nat} {rows w : List Row} {s : List Nat} (h : WR (d + 1) rows) (hm : mbR rows s = some w) : w.length ≤ rows.length := by
  obtain ⟨t, ht, rfl⟩ := Option.map_eq_some_iff.mp hm
  have htl : t < (ksR rows).length := by
    unfold mpl at ht
    split at ht
    · rw [← ksN_len]; exact (nix_lt ht).1
    · cases ht
  exact Nat.le_of_lt (ks_len h htl)
theorem opP_len {d : Nat} {rows : List Row} {s : List Nat} {p : List (List Nat)} (h : WR (d + 1) rows) (hp : opP (mbR rows s) = some p) : p.length ≤ tln rows := by
  cases hm : mbR rows s with
  | none => rw [hm] at hp; cases hp
  | some w =>
    rw [hm] at hp
    have h1 := tln_mb h hm
    unfold opP at hp
    simp only [] at hp
    split at hp
    · have := ptr_len hp; omega
    · cases hp
theorem opR_len {d : Nat} {rows : List Row} {o : Opn} (h : WR (d + 1) rows) (ho : opR rows = some o) : o.2.1.length ≤ tln rows ∧ o.2.2.1.length ≤ tln rows ∧ o.2.2.2.length ≤ rows.length := by
  unfold opR at ho
  cases hp : opP (mbR rows (LTx.getD 12 [])) with
  | none => rw [hp] at ho; cases ho
  | some p =>
    have h1 := opP_len h hp
    rw [hp, Option.bind_some] at ho
    split at ho
    · cases ho
    · split at ho
      · obtain ⟨f, hf, rfl⟩ := Option.map_eq_some_iff.mp ho
        exact ⟨h1, opP_len h hf, Nat.zero_le _⟩
      · split at ho
        · cases ho; exact ⟨h1, Nat.zero_le _, Nat.zero_le _⟩
        · obtain ⟨v, hv, rfl⟩ := Option.map_eq_some_iff.mp ho
          exact ⟨h1, Nat.zero_le _, mb_len h hv⟩
theorem opsL_len {d : Nat} : ∀ {rs : List (List Row)} {os : List Opn}, (∀ r ∈ rs, WR (d + 1) r) → opsL rs = some os → stS os ≤ 2 * tlS rs ∧ ∀ i, i < os.length → (os.getD i (0, [], [], [])).2.1.length ≤ tlS rs ∧ (os.getD i (0, [], [], [])).2.2.1.length ≤ tlS rs ∧ (os.getD i (0, [], [], [])).2.2.2.length ≤ slen rs
  | [], os, _, h => by cases h; exact ⟨Nat.zero_le _, fun i hi => absurd hi (Nat.not_lt_zero _)⟩
  | r :: rs, os, hw, h => by
    rw [opsL] at h
    cases ho : opR r with
    | none => rw [ho] at h; cases h
    | some o =>
      rw [ho, Option.bind_some] at h
      obtain ⟨qs, hq, rfl⟩ := Option.map_eq_some_iff.mp h
      have h1 := opR_len (hw r List.mem_cons_self) ho
      have h2 := opsL_len (fun r hr => hw r (List.mem_cons_of_mem _ hr)) hq
      have e1 : tlS (r :: rs) = tln r + tlS rs := by simp [tlS]
      have e2 : slen (r :: rs) = r.length + slen rs := by simp [slen]
      have e3 : stS (o :: qs) = (o.2.2.1.length + o.2.1.length) + stS qs := by simp [stS]
      rw [e1, e2, e3]
      refine ⟨by omega, fun i hi => ?_⟩
      cases i with
      | zero => exact ⟨by show o.2.1.length ≤ _; omega, by show o.2.2.1.length ≤ _; omega, by show o.2.2.2.length ≤ _; omega⟩
      | succ i =>
        have h3 := h2.2 i (by simpa using hi)
        exact ⟨by show (qs.getD i (0, [], [], [])).2.1.length ≤ _; omega, by show (qs.getD i (0, [], [], [])).2.2.1.length ≤ _; omega, by show (qs.getD i (0, [], [], [])).2.2.2.length ≤ _; omega⟩
theorem slen_rows {d : Nat} {rows : List Row} (h : WR (d + 1) rows) : slen (ksR rows) ≤ rows.length := by
  obtain ⟨k, num, rt, e, _⟩ := wr_parts h
  have h9 := congrArg List.length e
  rw [List.length_cons, len_kids k _ _ (ksN_len rows)] at h9
  omega
