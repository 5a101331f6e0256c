theorem ptr_split {T : List Nat} {ss : List (List Nat)} (h : ptr T = some ss) (hT : T ≠ []) : ∃ s R q qs, T = 47 :: (s ++ R) ∧ (∀ c ∈ s, ¬ c = 47) ∧ (R = [] ∨ hd0 R = 47) ∧ dcd s = some q ∧ ptr R = some qs ∧ ss = q :: qs := by
  cases T with
  | nil => exact absurd rfl hT
  | cons c T =>
    have h' : (if c = 47 then dcs (spl T) else none) = some ss := h
    split at h'
    · next hc =>
      subst hc
      have e : T = T.takeWhile (fun c => decide (c ≠ 47)) ++ T.dropWhile (fun c => decide (c ≠ 47)) := List.takeWhile_append_dropWhile.symm
      have hs : ∀ c ∈ T.takeWhile (fun c => decide (c ≠ 47)), ¬ c = 47 := fun c hc => by
        have := List.all_eq_true.mp (List.all_takeWhile (p := fun c => decide (c ≠ 47)) (l := T)) c hc
        simpa using this
      have hR : T.dropWhile (fun c => decide (c ≠ 47)) = [] ∨ hd0 (T.dropWhile (fun c => decide (c ≠ 47))) = 47 := by
        cases hd : T.dropWhile (fun c => decide (c ≠ 47)) with
        | nil => exact Or.inl rfl
        | cons x xs =>
          have h2 := List.head_dropWhile_not (fun c => decide (c ≠ 47)) (l := T) (by rw [hd]; simp)
          simp only [hd, List.head_cons] at h2
          exact Or.inr (by simpa [hd0] using h2)
      generalize T.takeWhile (fun c => decide (c ≠ 47)) = s at e hs
      generalize T.dropWhile (fun c => decide (c ≠ 47)) = R at e hR
      subst e
      rw [ptr_step hs hR] at h
      cases h1 : dcd s with
      | none => rw [h1] at h; cases h
      | some q =>
        cases h2 : ptr R with
        | none => rw [h1, h2] at h; cases h
        | some qs =>
          rw [h1, h2] at h
          cases h
          exact ⟨s, R, q, qs, rfl, hs, hR, h1, h2, rfl⟩
    · cases h'
theorem dcd_codes : ∀ (n : Nat) (s q : List Nat), s.length ≤ n → dcd s = some q → (∀ c ∈ s, c < 128) → (∀ c ∈ q, c < 128) ∧ q.length ≤ s.length
  | _, [], q, _, h, _ => by cases h; exact ⟨fun c hc => (by cases hc), Nat.le_refl _⟩
  | 0, _ :: _, _, hn, _, _ => by simp at hn
  | n + 1, [c], q, hn, h, hc => by
    rw [dcd] at h
    split at h
    · cases h
    · cases h; exact ⟨hc, Nat.le_refl _⟩
  | n + 1, c :: d :: R, q, hn, h, hc => by
    simp only [List.length_cons] at hn
    rw [dcd] at h
    split at h
    · split at h
      · obtain ⟨z, hz, rfl⟩ := Option.map_eq_some_iff.mp h
        have := dcd_codes n R z (by omega) hz (fun x hx => hc x (List.mem_cons_of_mem _ (List.mem_cons_of_mem _ hx)))
        refine ⟨fun x hx => ?_, by simp only [List.length_cons]; omega⟩
        rcases List.mem_cons.mp hx with rfl | hx
        · decide
        · exact this.1 x hx
      · split at h
        · obtain ⟨z, hz, rfl⟩ := Option.map_eq_some_iff.mp h
          have := dcd_codes n R z (by omega) hz (fun x hx => hc x (List.mem_cons_of_mem _ (List.mem_cons_of_mem _ hx)))
          refine ⟨fun x hx => ?_, by simp only [List.length_cons]; omega⟩
          rcases List.mem_cons.mp hx with rfl | hx
          · decide
          · exact this.1 x hx
        · cases h
    · obtain ⟨z, hz, rfl⟩ := Option.map_eq_some_iff.mp h
      have := dcd_codes n (d :: R) z (by simp only [List.length_cons]; omega) hz (fun x hx => hc x (List.mem_cons_of_mem _ hx))
      refine ⟨fun x hx => ?_, by simp only [List.length_cons] at this ⊢; omega⟩
      rcases List.mem_cons.mp hx with rfl | hx
      · exact hc _ List.mem_cons_self
      · exact this.1 x hx
theorem drop_R {tx s R : List Nat} {a : Nat} (h : tx.drop a = 47 :: (s ++ R)) : tx.drop (a + 1 + s.length) = R := by
  rw [← List.drop_drop, ← List.drop_drop, h]
  show (s ++ R).drop s.length = R
  rw [List.drop_left]
theorem elm_none {rows : List Row} {s : List Nat} {k d x : Nat} (h : (if k = 5 ∧ ¬ oI (wnum s) < 0 ∧ (oI (wnum s)).toNatClampNeg < (ksR rows).length then oI (wnum s) else -1) = oI (stp rows s)) (hst : stp rows s = none) : (if k = 5 ∧ ¬ oI (wnum s) < 0 ∧ (oI (wnum s)).toNatClampNeg < (ksR rows).length then nI (bsK 7 + x) else -1) = -1 := by
  rw [hst] at h
  split at h
  · next hc =>
    have h9 : oI (wnum s) = -1 := h
    rw [h9] at hc
    exact absurd (by decide) hc.2.1
  · next hc => rw [if_neg hc]
theorem elm_some {rows : List Row} {s : List Nat} {k t i : Nat} (hc : ∀ c ∈ s, c < 128) (h6 : ¬ hdK rows = 6) (hk : hdK rows = k) (hst : stp rows s = some t) : (if k = 5 ∧ ¬ oI (wnum s) < 0 ∧ (oI (wnum s)).toNatClampNeg < (ksR rows).length then nI (bsK 7 + (i + 1 + slen ((ksR rows).take (oI (wnum s)).toNatClampNeg))) else -1) = nI (224 + (i + 1 + slen ((ksR rows).take t))) := by
  unfold stp at hst
  rw [if_neg h6] at hst
  split at hst
  · next h5 =>
    cases hw : wnum s with
    | none => rw [hw] at hst; cases hst
    | some v =>
      have hv := wnum_lt hc hw
      rw [hw] at hst
      have hst2 : (if v < (ksR rows).length then some v else none) = some t := hst
      split at hst2
      · next hl =>
        have hvt : v = t := Option.some.inj hst2
        subst hvt
        have e : oI (some v) = nI v := rfl
        rw [e, nI_clamp (by omega), if_pos ⟨hk.symm.trans h5, nI_pos (by omega), hl⟩]
        rfl
      · cases hst2
  · cases hst
set_option maxHeartbeats 1000000 in
set_option maxRecDepth 100000 in
/-- lead(from, to) -/
theorem k_MO_lead (l : Launch) (dC : Nat → ClassId) (dI : Nat → Nat → Nat) (sz : Nat) (y : Nat) (lim : Int32) (rm : Int32) (i_literal : Int64) (a_size : Nat) (a_kind : Nat) (a_level : Nat) (a_at : Nat) (a_len : Nat) (a_nameAt : Nat) (a_nameLen : Nat) (a_num : Nat) (a_pool : Nat) (a_draft : Nat) (a_open : Nat) (a_word : Nat) (a_list : Nat) (a_next : Nat) (a_result : Nat) (a_twin : Nat) (a_came : Nat) (a_closer : Nat) (i_pooled : Int32) (i_drafted : Int32) (i_pos : Int32) (i_code : Int32) (i_opened : Int32) (i_heldAt : Int32) (i_heldLen : Int32) (i_literalKind : Int32) (i_bad : Int32) (i_given : Int32) (i_listed : Int32) (i_found : Int32) (i_last : Int32) (i_results : Int32) (i_full : Int32) (i_working : Int32) (i_seen : Int32) (i_wanted : Int32) (i_got : Int32) (i_letters : Int32) (cI : ClassId) (cC : ClassId) (sf : Nat → Int32) (kf : Nat → Int32) (vf : Nat → Int32) (af : Nat → Int32) (lf : Nat → Int32) (xf : Nat → Int32) (nf : Nat → Int32) (uf : Nat → Int64) (pf : Nat → Int32) (wf : Nat → Int32) (pn : Nat) (pp : Nat) (tx : List Nat) (ss : List (List Nat)) (w0 : List Row) (d : Nat) (hpt : TXP pf pn pp tx) (hpn : pn ≤ 8400) (hl1 : tx.length ≤ 160) (hpr : ptr tx = some ss) (hsf : sf 7 = nI w0.length) (hw32 : w0.length ≤ 160) (hTR : TR 224 w0 kf vf af lf xf nf uf pf pn) (hWR : WR d w0) (hd : d ≤ 100) : Met l y_MO_lead ws_MO_lead ({ frames := 4, cells := 0, slots := 0, locals := 91 }) (va_Pc [.ref y, .int (nI pp), .int (nI (pp + tx.length))] (fun U => U.heap.size = sz ∧ va_P (dC, dI) vwCl [(y, .inr (12, [.int lim, .int rm, .ref a_size, .ref a_kind, .ref a_level, .ref a_at, .ref a_len, .ref a_nameAt, .ref a_nameLen, .ref a_num, .ref a_pool, .int i_pooled, .ref a_draft, .int i_drafted, .int i_pos, .int i_code, .ref a_open, .int i_opened, .int i_heldAt, .int i_heldLen, .ref a_word, .int i_letters, .int i_literalKind, .int i_bad, .int i_given, .long i_literal, .ref a_list, .ref a_next, .ref a_result, .int i_listed, .int i_found, .int i_last, .int i_results, .int i_full, .int i_working, .ref a_twin, .int i_seen, .int i_wanted, .int i_got, .ref a_came, .ref a_closer])), (a_pool, .inl (cC, 8400, .inl pf)), (a_word, .inl (cC, 160, .inl wf)), (a_size, .inl (cI, 10, .inl sf)), (a_kind, .inl (cI, 576, .inl kf)), (a_level, .inl (cI, 576, .inl vf)), (a_nameAt, .inl (cI, 576, .inl xf)), (a_nameLen, .inl (cI, 576, .inl nf))] U.heap ∧ va_K (dC, dI) vwCl [(cI, .int), (cC, .char)] U ∧ va_D (fun _ => True) [(y, .inr (12, [.int lim, .int rm, .ref a_size, .ref a_kind, .ref a_level, .ref a_at, .ref a_len, .ref a_nameAt, .ref a_nameLen, .ref a_num, .ref a_pool, .int i_pooled, .ref a_draft, .int i_drafted, .int i_pos, .int i_code, .ref a_open, .int i_opened, .int i_heldAt, .int i_heldLen, .ref a_word, .int i_letters, .int i_literalKind, .int i_bad, .int i_given, .long i_literal, .ref a_list, .ref a_next, .ref a_result, .int i_listed, .int i_found, .int i_last, .int i_results, .int i_full, .int i_working, .ref a_twin, .int i_seen, .int i_wanted, .int i_got, .ref a_came, .ref a_closer])), (a_pool, .inl (cC, 8400, .inl pf)), (a_word, .inl (cC, 160, .inl wf)), (a_size, .inl (cI, 10, .inl sf)), (a_kind, .inl (cI, 576, .inl kf)), (a_level, .inl (cI, 576, .inl vf)), (a_nameAt, .inl (cI, 576, .inl xf)), (a_nameLen, .inl (cI, 576, .inl nf))])) (va_Qi (fun (r : Int32) (u : Int32 × (Nat → Int32)) => r = (match trp ss w0 0 with | none => -1 | some i => nI (224 + i))) (fun u t => va_P (dC, dI) vwCl [(y, .inr (12, [.int lim, .int rm, .ref a_size, .ref a_kind, .ref a_level, .ref a_at, .ref a_len, .ref a_nameAt, .ref a_nameLen, .ref a_num, .ref a_pool, .int i_pooled, .ref a_draft, .int i_drafted, .int i_pos, .int i_code, .ref a_open, .int i_opened, .int i_heldAt, .int i_heldLen, .ref a_word, .int u.1, .int i_literalKind, .int i_bad, .int i_given, .long i_literal, .ref a_list, .ref a_next, .ref a_result, .int i_listed, .int i_found, .int i_last, .int i_results, .int i_full, .int i_working, .ref a_twin, .int i_seen, .int i_wanted, .int i_got, .ref a_came, .ref a_closer])), (a_pool, .inl (cC, 8400, .inl pf)), (a_word, .inl (cC, 160, .inl u.2)), (a_size, .inl (cI, 10, .inl sf)), (a_kind, .inl (cI, 576, .inl kf)), (a_level, .inl (cI, 576, .inl vf)), (a_nameAt, .inl (cI, 576, .inl xf)), (a_nameLen, .inl (cI, 576, .inl nf))] t.heap ∧ va_K (dC, dI) vwCl [(cI, .int), (cC, .char)] t ∧ va_D (va_A [(y, .inr (12, [.int lim, .int rm, .ref a_size, .ref a_kind, .ref a_level, .ref a_at, .ref a_len, .ref a_nameAt, .ref a_nameLen, .ref a_num, .ref a_pool, .int i_pooled, .ref a_draft, .int i_drafted, .int i_pos, .int i_code, .ref a_open, .int i_opened, .int i_heldAt, .int i_heldLen, .ref a_word, .int i_letters, .int i_literalKind, .int i_bad, .int i_given, .long i_literal, .ref a_list, .ref a_next, .ref a_result, .int i_listed, .int i_found, .int i_last, .int i_results, .int i_full, .int i_working, .ref a_twin, .int i_seen, .int i_wanted, .int i_got, .ref a_came, .ref a_closer])), (a_pool, .inl (cC, 8400, .inl pf)), (a_word, .inl (cC, 160, .inl wf)), (a_size, .inl (cI, 10, .inl sf)), (a_kind, .inl (cI, 576, .inl kf)), (a_level, .inl (cI, 576, .inl vf)), (a_nameAt, .inl (cI, 576, .inl xf)), (a_nameLen, .inl (cI, 576, .inl nf))] sz) [(y, .inr (12, [.int lim, .int rm, .ref a_size, .ref a_kind, .ref a_level, .ref a_at, .ref a_len, .ref a_nameAt, .ref a_nameLen, .ref a_num, .ref a_pool, .int i_pooled, .ref a_draft, .int i_drafted, .int i_pos, .int i_code, .ref a_open, .int i_opened, .int i_heldAt, .int i_heldLen, .ref a_word, .int u.1, .int i_literalKind, .int i_bad, .int i_given, .long i_literal, .ref a_list, .ref a_next, .ref a_result, .int i_listed, .int i_found, .int i_last, .int i_results, .int i_full, .int i_working, .ref a_twin, .int i_seen, .int i_wanted, .int i_got, .ref a_came, .ref a_closer])), (a_pool, .inl (cC, 8400, .inl pf)), (a_word, .inl (cC, 160, .inl u.2)), (a_size, .inl (cI, 10, .inl sf)), (a_kind, .inl (cI, 576, .inl kf)), (a_level, .inl (cI, 576, .inl vf)), (a_nameAt, .inl (cI, 576, .inl xf)), (a_nameLen, .inl (cI, 576, .inl nf))]) (va_A [(y, .inr (12, [.int lim, .int rm, .ref a_size, .ref a_kind, .ref a_level, .ref a_at, .ref a_len, .ref a_nameAt, .ref a_nameLen, .ref a_num, .ref a_pool, .int i_pooled, .ref a_draft, .int i_drafted, .int i_pos, .int i_code, .ref a_open, .int i_opened, .int i_heldAt, .int i_heldLen, .ref a_word, .int i_letters, .int i_literalKind, .int i_bad, .int i_given, .long i_literal, .ref a_list, .ref a_next, .ref a_result, .int i_listed, .int i_found, .int i_last, .int i_results, .int i_full, .int i_working, .ref a_twin, .int i_seen, .int i_wanted, .int i_got, .ref a_came, .ref a_closer])), (a_pool, .inl (cC, 8400, .inl pf)), (a_word, .inl (cC, 160, .inl wf)), (a_size, .inl (cI, 10, .inl sf)), (a_kind, .inl (cI, 576, .inl kf)), (a_level, .inl (cI, 576, .inl vf)), (a_nameAt, .inl (cI, 576, .inl xf)), (a_nameLen, .inl (cI, 576, .inl nf))] sz)) 0 0 (va_A [(y, .inr (12, [.int lim, .int rm, .ref a_size, .ref a_kind, .ref a_level, .ref a_at, .ref a_len, .ref a_nameAt, .ref a_nameLen, .ref a_num, .ref a_pool, .int i_pooled, .ref a_draft, .int i_drafted, .int i_pos, .int i_code, .ref a_open, .int i_opened, .int i_heldAt, .int i_heldLen, .ref a_word, .int i_letters, .int i_literalKind, .int i_bad, .int i_given, .long i_literal, .ref a_list, .ref a_next, .ref a_result, .int i_listed, .int i_found, .int i_last, .int i_results, .int i_full, .int i_working, .ref a_twin, .int i_seen, .int i_wanted, .int i_got, .ref a_came, .ref a_closer])), (a_pool, .inl (cC, 8400, .inl pf)), (a_word, .inl (cC, 160, .inl wf)), (a_size, .inl (cI, 10, .inl sf)), (a_kind, .inl (cI, 576, .inl kf)), (a_level, .inl (cI, 576, .inl vf)), (a_nameAt, .inl (cI, 576, .inl xf)), (a_nameLen, .inl (cI, 576, .inl nf))] sz) := by
  refine Met.ofW (cc := c_MO_lead) (maxL := 5) (ret := (some .int)) (by decide) rfl ?_
  intro p e s m args below meth c s₁ B hml hv
  obtain ⟨hargs, hsz, hP, hK, hD0⟩ := hv
  rw [show entryFrame m args 5 = entryFrame m ([.ref y, .int (nI pp), .int (nI (pp + tx.length))]).toArray 5 by rw [hargs]]
  have hx := B.exec
  have hb := B.bytes
  have hr := B.returns
  have hts := atoms_spec (ws := ws_MO_lead) B.pre
  have htb := fun w (h : w ∈ TBL) => hts w (List.mem_cons_of_mem _ h)
  have hown : s.vm.findClass R_MO = some m.cls := findClass_of_methodNamed B.named
  have hlocks := B.notSynchronized
  subst hsz
  have hD := hD0.self (sz := s.heap.size)
  generalize hAe : va_A [(y, .inr (12, [.int lim, .int rm, .ref a_size, .ref a_kind, .ref a_level, .ref a_at, .ref a_len, .ref a_nameAt, .ref a_nameLen, .ref a_num, .ref a_pool, .int i_pooled, .ref a_draft, .int i_drafted, .int i_pos, .int i_code, .ref a_open, .int i_opened, .int i_heldAt, .int i_heldLen, .ref a_word, .int i_letters, .int i_literalKind, .int i_bad, .int i_given, .long i_literal, .ref a_list, .ref a_next, .ref a_result, .int i_listed, .int i_found, .int i_last, .int i_results, .int i_full, .int i_working, .ref a_twin, .int i_seen, .int i_wanted, .int i_got, .ref a_came, .ref a_closer])), (a_pool, .inl (cC, 8400, .inl pf)), (a_word, .inl (cC, 160, .inl wf)), (a_size, .inl (cI, 10, .inl sf)), (a_kind, .inl (cI, 576, .inl kf)), (a_level, .inl (cI, 576, .inl vf)), (a_nameAt, .inl (cI, 576, .inl xf)), (a_nameLen, .inl (cI, 576, .inl nf))] s.heap.size = A at hD ⊢
  have hA : ∀ q : Nat, s.heap.size ≤ q → A q := fun q h => by rw [← hAe]; exact Or.inr h
  have hS : va_S A s.heap s.heap [] := va_S.rf
  have hP : va_P (dC, dI) vwCl [(y, .inr (12, [.int lim, .int rm, .ref a_size, .ref a_kind, .ref a_level, .ref a_at, .ref a_len, .ref a_nameAt, .ref a_nameLen, .ref a_num, .ref a_pool, .int i_pooled, .ref a_draft, .int i_drafted, .int i_pos, .int i_code, .ref a_open, .int i_opened, .int i_heldAt, .int i_heldLen, .ref a_word, .int i_letters, .int i_literalKind, .int i_bad, .int i_given, .long i_literal, .ref a_list, .ref a_next, .ref a_result, .int i_listed, .int i_found, .int i_last, .int i_results, .int i_full, .int i_working, .ref a_twin, .int i_seen, .int i_wanted, .int i_got, .ref a_came, .ref a_closer])), (a_pool, .inl (cC, 8400, .inl pf)), (a_word, .inl (cC, 160, .inl wf)), (a_size, .inl (cI, 10, .inl sf)), (a_kind, .inl (cI, 576, .inl kf)), (a_level, .inl (cI, 576, .inl vf)), (a_nameAt, .inl (cI, 576, .inl xf)), (a_nameLen, .inl (cI, 576, .inl nf))] s.heap := hP
  have hl := lv_entry ([.ref y, .int (nI pp), .int (nI (pp + tx.length))]) (n := 5) (Nat.le_of_ble_eq_true rfl)
  rw [lg_entry_eq]
  generalize (lg_sl ([.ref y, .int (nI pp), .int (nI (pp + tx.length))]) ++ List.replicate (5 - (lg_sl ([.ref y, .int (nI pp), .int (nI (pp + tx.length))])).length) Slot.unset).toArray = ls at hl ⊢
  have hl : lv_has ls 5 [(0, .ref y), (1, .int (nI pp)), (2, .int (nI (pp + tx.length)))] := hl
  refine zz_nQ (fun Q hQ => ?_)
  have hp1 := hpt.1
  have hb7 : bsK 7 = 224 := rfl
  have hlv : ∀ j, j < w0.length → vf (bsK 7 + j) = nI (lvR w0 j) ∧ lvR w0 j < 1000 := fun j hj => ⟨hTR.lv hj, by rw [lvR_of (List.getElem?_eq_getElem hj)]; have := wr_lv hWR _ (List.getElem_mem hj); omega⟩
  refine lv_sipush (v := 224) hx hb d_MO_lead_0 (by decide) ?_
  refine lv_istore_n hx hb d_MO_lead_3 rfl hl (by decide) rfl (fun ls hl => ?_)
  have hl : lv_has ls 5 [(3, .int 224), (0, .ref y), (1, .int (nI pp)), (2, .int (nI (pp + tx.length)))] := hl
  refine lv_iload_n hx hb d_MO_lead_4 rfl (lv_at hl 2 rfl) ?_
  refine lv_istore hx hb d_MO_lead_5 hl (by decide) rfl (fun ls hl => ?_)
  have hl : lv_has ls 5 [(4, .int (nI pp)), (3, .int 224), (0, .ref y), (1, .int (nI pp)), (2, .int (nI (pp + tx.length)))] := hl
  have hloop : ∀ (k9 : Nat) (a : Nat) (ss1 : List (List Nat)) (i : Nat) (w1 : List Row) (d1 : Nat) (l1 : Nat) (nm1 : List Nat) (lt1 : Int32) (wf1 : Nat → Int32) (H : Heap) (locs : List Loc) (ls : Array Slot), tx.length - a = k9 → (a ≤ tx.length) → (ptr (tx.drop a) = some ss1) → (SUB w0 i l1 nm1 w1) → (WR d1 w1) → (trp ss1 w1 i = trp ss w0 0) → lv_has ls 5 [(4, .int (nI (pp + a))), (3, .int (nI (224 + i))), (0, .ref y), (2, .int (nI (pp + tx.length)))] → va_P (dC, dI) vwCl [(y, .inr (12, [.int lim, .int rm, .ref a_size, .ref a_kind, .ref a_level, .ref a_at, .ref a_len, .ref a_nameAt, .ref a_nameLen, .ref a_num, .ref a_pool, .int i_pooled, .ref a_draft, .int i_drafted, .int i_pos, .int i_code, .ref a_open, .int i_opened, .int i_heldAt, .int i_heldLen, .ref a_word, .int lt1, .int i_literalKind, .int i_bad, .int i_given, .long i_literal, .ref a_list, .ref a_next, .ref a_result, .int i_listed, .int i_found, .int i_last, .int i_results, .int i_full, .int i_working, .ref a_twin, .int i_seen, .int i_wanted, .int i_got, .ref a_came, .ref a_closer])), (a_pool, .inl (cC, 8400, .inl pf)), (a_word, .inl (cC, 160, .inl wf1)), (a_size, .inl (cI, 10, .inl sf)), (a_kind, .inl (cI, 576, .inl kf)), (a_level, .inl (cI, 576, .inl vf)), (a_nameAt, .inl (cI, 576, .inl xf)), (a_nameLen, .inl (cI, 576, .inl nf))] H → va_D A [(y, .inr (12, [.int lim, .int rm, .ref a_size, .ref a_kind, .ref a_level, .ref a_at, .ref a_len, .ref a_nameAt, .ref a_nameLen, .ref a_num, .ref a_pool, .int i_pooled, .ref a_draft, .int i_drafted, .int i_pos, .int i_code, .ref a_open, .int i_opened, .int i_heldAt, .int i_heldLen, .ref a_word, .int lt1, .int i_literalKind, .int i_bad, .int i_given, .long i_literal, .ref a_list, .ref a_next, .ref a_result, .int i_listed, .int i_found, .int i_last, .int i_results, .int i_full, .int i_working, .ref a_twin, .int i_seen, .int i_wanted, .int i_got, .ref a_came, .ref a_closer])), (a_pool, .inl (cC, 8400, .inl pf)), (a_word, .inl (cC, 160, .inl wf1)), (a_size, .inl (cI, 10, .inl sf)), (a_kind, .inl (cI, 576, .inl kf)), (a_level, .inl (cI, 576, .inl vf)), (a_nameAt, .inl (cI, 576, .inl xf)), (a_nameLen, .inl (cI, 576, .inl nf))] → va_S A s.heap H locs → W p l e (headSpec ws_MO_lead ({ frames := 4, cells := 0, slots := 0, locals := 91 })).room s m args below meth c H locs 0 0 Q (F0 m 7 ls []) := by
    intro k9
    induction k9 using Nat.strongRecOn with
    | ind k9 ih =>
      intro a ss1 i w1 d1 l1 nm1 lt1 wf1 H locs ls hk9 hi1 hi2 hSU hW1 hi3 hl hP hD hS
      have hile := hSU.le
      have hw1p : 0 < w1.length := by cases w1 with | nil => exact absurd rfl (wr_ne hW1) | cons q r => simp
      refine lv_iload hx hb d_MO_lead_7 (lv_at hl 0 rfl) ?_
      refine lv_iload_n hx hb d_MO_lead_9 rfl (lv_at hl 3 rfl) ?_
      refine lv_icmp_ge (tgt := 62) hx hb d_MO_lead_10 rfl (fun h1 => ?_) (fun h1 => ?_)
      · have h1 : tx.length ≤ a := by have := (nI_leI (by omega) (by omega)).mp h1; omega
        have hs1 : ss1 = [] := by rw [List.drop_eq_nil_of_le h1] at hi2; cases hi2; rfl
        have htp : trp ss w0 0 = some i := by rw [← hi3, hs1]; rfl
        refine lv_iload_n hx hb d_MO_lead_62 rfl (lv_at hl 1 rfl) ?_
        have hP9 := hP.sub (ws' := [(y, .inr (12, [.int lim, .int rm, .ref a_size, .ref a_kind, .ref a_level, .ref a_at, .ref a_len, .ref a_nameAt, .ref a_nameLen, .ref a_num, .ref a_pool, .int i_pooled, .ref a_draft, .int i_drafted, .int i_pos, .int i_code, .ref a_open, .int i_opened, .int i_heldAt, .int i_heldLen, .ref a_word, .int lt1, .int i_literalKind, .int i_bad, .int i_given, .long i_literal, .ref a_list, .ref a_next, .ref a_result, .int i_listed, .int i_found, .int i_last, .int i_results, .int i_full, .int i_working, .ref a_twin, .int i_seen, .int i_wanted, .int i_got, .ref a_came, .ref a_closer])), (a_pool, .inl (cC, 8400, .inl pf)), (a_word, .inl (cC, 160, .inl wf1)), (a_size, .inl (cI, 10, .inl sf)), (a_kind, .inl (cI, 576, .inl kf)), (a_level, .inl (cI, 576, .inl vf)), (a_nameAt, .inl (cI, 576, .inl xf)), (a_nameLen, .inl (cI, 576, .inl nf))]) [0, 1, 2, 3, 4, 5, 6, 7] rfl
        have hD9 := hD.sub (ws' := [(y, .inr (12, [.int lim, .int rm, .ref a_size, .ref a_kind, .ref a_level, .ref a_at, .ref a_len, .ref a_nameAt, .ref a_nameLen, .ref a_num, .ref a_pool, .int i_pooled, .ref a_draft, .int i_drafted, .int i_pos, .int i_code, .ref a_open, .int i_opened, .int i_heldAt, .int i_heldLen, .ref a_word, .int lt1, .int i_literalKind, .int i_bad, .int i_given, .long i_literal, .ref a_list, .ref a_next, .ref a_result, .int i_listed, .int i_found, .int i_last, .int i_results, .int i_full, .int i_working, .ref a_twin, .int i_seen, .int i_wanted, .int i_got, .ref a_came, .ref a_closer])), (a_pool, .inl (cC, 8400, .inl pf)), (a_word, .inl (cC, 160, .inl wf1)), (a_size, .inl (cI, 10, .inl sf)), (a_kind, .inl (cI, 576, .inl kf)), (a_level, .inl (cI, 576, .inl vf)), (a_nameAt, .inl (cI, 576, .inl xf)), (a_nameLen, .inl (cI, 576, .inl nf))]) [0, 1, 2, 3, 4, 5, 6, 7] (by decide) rfl
        have hK9 := hK.sub (tys' := [(cI, .int), (cC, .char)]) [0, 1] rfl
        rw [hQ]
        refine W.widen (k := 0) (n := 0) (Nat.le_of_ble_eq_true rfl) (Nat.le_of_ble_eq_true rfl) ?_
        exact W.iret (v := (nI (224 + i))) hx hb hr (fun t ht hW => ⟨⟨(nI (224 + i)), (lt1, wf1), rfl, by rw [htp], ⟨by rw [ht]; exact hP9, va_K.moved hW.alike hK9, hD9⟩⟩, hS.F ht⟩) hS.2.2 d_MO_lead_63
      · have h1 : a < tx.length := Nat.not_le.mp (fun h => h1 ((nI_leI (a := pp + tx.length) (b := pp + a) (by omega) (by omega)).mpr (by omega)))
        obtain ⟨s1, R1, q1, qs, hdr, h47, hR, hq1, hqs, hss⟩ := ptr_split hi2 (fun h => by have := congrArg List.length h; rw [List.length_drop, List.length_nil] at this; omega)
        have hsl := seg_len hdr
        rw [hss, trp] at hi3
        have hcs : ∀ c ∈ s1, c < 128 := fun c hc => hpt.2.1 c (List.mem_of_mem_drop (by rw [hdr]; exact List.mem_cons_of_mem _ (List.mem_append_left _ hc)))
        have hqc := dcd_codes _ s1 q1 (Nat.le_refl _) hq1 hcs
        refine lv_iload_n hx hb d_MO_lead_13 rfl (lv_at hl 1 rfl) ?_
        refine lv_if_lt (tgt := 62) hx hb d_MO_lead_14 rfl (fun h9 => absurd h9 (nI_pos (by omega))) (fun _ => ?_)
        refine lv_aload_n hx hb d_MO_lead_17 rfl (lv_at hl 2 rfl) ?_
        refine lv_iload hx hb d_MO_lead_18 (lv_at hl 0 rfl) ?_
        refine lv_iload_n hx hb d_MO_lead_20 rfl (lv_at hl 3 rfl) ?_
        have hPc := hP.sub (ws' := [(y, .inr (12, [.int lim, .int rm, .ref a_size, .ref a_kind, .ref a_level, .ref a_at, .ref a_len, .ref a_nameAt, .ref a_nameLen, .ref a_num, .ref a_pool, .int i_pooled, .ref a_draft, .int i_drafted, .int i_pos, .int i_code, .ref a_open, .int i_opened, .int i_heldAt, .int i_heldLen, .ref a_word, .int lt1, .int i_literalKind, .int i_bad, .int i_given, .long i_literal, .ref a_list, .ref a_next, .ref a_result, .int i_listed, .int i_found, .int i_last, .int i_results, .int i_full, .int i_working, .ref a_twin, .int i_seen, .int i_wanted, .int i_got, .ref a_came, .ref a_closer])), (a_pool, .inl (cC, 8400, .inl pf)), (a_word, .inl (cC, 160, .inl wf1))]) [0, 1, 2] rfl
        have hDc := hD.sub (ws' := [(y, .inr (12, [.int lim, .int rm, .ref a_size, .ref a_kind, .ref a_level, .ref a_at, .ref a_len, .ref a_nameAt, .ref a_nameLen, .ref a_num, .ref a_pool, .int i_pooled, .ref a_draft, .int i_drafted, .int i_pos, .int i_code, .ref a_open, .int i_opened, .int i_heldAt, .int i_heldLen, .ref a_word, .int lt1, .int i_literalKind, .int i_bad, .int i_given, .long i_literal, .ref a_list, .ref a_next, .ref a_result, .int i_listed, .int i_found, .int i_last, .int i_results, .int i_full, .int i_working, .ref a_twin, .int i_seen, .int i_wanted, .int i_got, .ref a_came, .ref a_closer])), (a_pool, .inl (cC, 8400, .inl pf)), (a_word, .inl (cC, 160, .inl wf1))]) [0, 1, 2] (by decide) rfl
        have hFc := va_free (wc := [(y, .inr (12, [.int lim, .int rm, .ref a_size, .ref a_kind, .ref a_level, .ref a_at, .ref a_len, .ref a_nameAt, .ref a_nameLen, .ref a_num, .ref a_pool, .int i_pooled, .ref a_draft, .int i_drafted, .int i_pos, .int i_code, .ref a_open, .int i_opened, .int i_heldAt, .int i_heldLen, .ref a_word, .int lt1, .int i_literalKind, .int i_bad, .int i_given, .long i_literal, .ref a_list, .ref a_next, .ref a_result, .int i_listed, .int i_found, .int i_last, .int i_results, .int i_full, .int i_working, .ref a_twin, .int i_seen, .int i_wanted, .int i_got, .ref a_came, .ref a_closer])), (a_pool, .inl (cC, 8400, .inl pf)), (a_word, .inl (cC, 160, .inl wf1))]) hD hS hA [0, 1, 2] rfl
        have hKc := hK.sub (tys' := [(cC, .char)]) [1] rfl
        refine va_calli (va_runV (As := [.int (nI (pp + a)), .int (nI (pp + tx.length))]) (rest := []) ⟨hx, hb, hml, hown, htb⟩ (k_MO_step l dC dI _ y lim rm i_literal a_size a_kind a_level a_at a_len a_nameAt a_nameLen a_num a_pool a_draft a_open a_word a_list a_next a_result a_twin a_came a_closer i_pooled i_drafted i_pos i_code i_opened i_heldAt i_heldLen i_literalKind i_bad i_given i_listed i_found i_last i_results i_full i_working i_seen i_wanted i_got lt1 cC pf wf1 pn pp tx a s1 R1 q1 hpt hpn hl1 hdr h47 hR hq1) (cwV 2 htb (g_V (fun _ h => h) m_1421 m_1418 m_1420 m_1678 m_9) rfl rfl rfl (by decide +kernel) ⟨Nat.le_of_ble_eq_true rfl, Nat.le_of_ble_eq_true rfl⟩) ⟨fun a U g mk q => by obtain ⟨q0, q1, qP, qK, qD⟩ := q; exact ⟨q0, q1, qP, va_K.moved (u := U) (U := U.calling g mk a) (Vm.Alike.refl U.vm) qK, qD⟩, va_recv hK hP (ci := 12) rfl (q0 := 0) rfl, fun U hU hW => ⟨rfl, by rw [hU], by rw [hU]; exact hPc, va_K.moved hW.alike hKc, hDc.weaken (fun _ _ _ _ => trivial)⟩⟩ rfl rfl hl.1 rfl (lv_room (Nat.le_of_ble_eq_true rfl)) d_MO_lead_21 ⟨Nat.le_of_ble_eq_true rfl, Nat.le_of_ble_eq_true rfl⟩) hS (fun q _ h => hFc q h) hFc (fun r2 u1 t H1 locs ht hvm hw3 hB hz1 hk1 hS => ?_)
        obtain ⟨hP1, hK1, hD1⟩ := hB
        rw [ht] at hP1
        have hK1 := va_K.moved hvm.symm hK1
        have hw3 : r2 = (nI (pp + (a + 1 + s1.length))) ∧ WRD q1 u1 := hw3
        obtain ⟨hP, hD⟩ := va_join (wr := [(a_size, .inl (cI, 10, .inl sf)), (a_kind, .inl (cI, 576, .inl kf)), (a_level, .inl (cI, 576, .inl vf)), (a_nameAt, .inl (cI, 576, .inl xf)), (a_nameLen, .inl (cI, 576, .inl nf))]) (w1 := [(y, .inr (12, [.int lim, .int rm, .ref a_size, .ref a_kind, .ref a_level, .ref a_at, .ref a_len, .ref a_nameAt, .ref a_nameLen, .ref a_num, .ref a_pool, .int i_pooled, .ref a_draft, .int i_drafted, .int i_pos, .int i_code, .ref a_open, .int i_opened, .int i_heldAt, .int i_heldLen, .ref a_word, .int (nI q1.length), .int i_literalKind, .int i_bad, .int i_given, .long i_literal, .ref a_list, .ref a_next, .ref a_result, .int i_listed, .int i_found, .int i_last, .int i_results, .int i_full, .int i_working, .ref a_twin, .int i_seen, .int i_wanted, .int i_got, .ref a_came, .ref a_closer])), (a_pool, .inl (cC, 8400, .inl pf)), (a_word, .inl (cC, 160, .inl u1))]) hP hD [0, 1, 2] [3, 4, 5, 6, 7] rfl rfl (by decide) (by decide) hk1 hFc hP1 hD1
        have hK := (hK.sub (tys' := [(cI, .int)]) [0] rfl).app hK1
        generalize H1 = H at hP hS ⊢
        have hP : va_P (dC, dI) vwCl [(a_size, .inl (cI, 10, .inl sf)), (a_kind, .inl (cI, 576, .inl kf)), (a_level, .inl (cI, 576, .inl vf)), (a_nameAt, .inl (cI, 576, .inl xf)), (a_nameLen, .inl (cI, 576, .inl nf)), (y, .inr (12, [.int lim, .int rm, .ref a_size, .ref a_kind, .ref a_level, .ref a_at, .ref a_len, .ref a_nameAt, .ref a_nameLen, .ref a_num, .ref a_pool, .int i_pooled, .ref a_draft, .int i_drafted, .int i_pos, .int i_code, .ref a_open, .int i_opened, .int i_heldAt, .int i_heldLen, .ref a_word, .int (nI q1.length), .int i_literalKind, .int i_bad, .int i_given, .long i_literal, .ref a_list, .ref a_next, .ref a_result, .int i_listed, .int i_found, .int i_last, .int i_results, .int i_full, .int i_working, .ref a_twin, .int i_seen, .int i_wanted, .int i_got, .ref a_came, .ref a_closer])), (a_pool, .inl (cC, 8400, .inl pf)), (a_word, .inl (cC, 160, .inl u1))] H := hP
        have hD : va_D A [(a_size, .inl (cI, 10, .inl sf)), (a_kind, .inl (cI, 576, .inl kf)), (a_level, .inl (cI, 576, .inl vf)), (a_nameAt, .inl (cI, 576, .inl xf)), (a_nameLen, .inl (cI, 576, .inl nf)), (y, .inr (12, [.int lim, .int rm, .ref a_size, .ref a_kind, .ref a_level, .ref a_at, .ref a_len, .ref a_nameAt, .ref a_nameLen, .ref a_num, .ref a_pool, .int i_pooled, .ref a_draft, .int i_drafted, .int i_pos, .int i_code, .ref a_open, .int i_opened, .int i_heldAt, .int i_heldLen, .ref a_word, .int (nI q1.length), .int i_literalKind, .int i_bad, .int i_given, .long i_literal, .ref a_list, .ref a_next, .ref a_result, .int i_listed, .int i_found, .int i_last, .int i_results, .int i_full, .int i_working, .ref a_twin, .int i_seen, .int i_wanted, .int i_got, .ref a_came, .ref a_closer])), (a_pool, .inl (cC, 8400, .inl pf)), (a_word, .inl (cC, 160, .inl u1))] := hD
        have hK : va_K (dC, dI) vwCl [(cI, .int), (cC, .char)] s := hK
        obtain ⟨hr1, hwz⟩ := hw3
        subst hr1
        refine lv_istore hx hb d_MO_lead_24 hl (by decide) rfl (fun ls hl => ?_)
        have hl : lv_has ls 5 [(4, .int (nI (pp + (a + 1 + s1.length)))), (3, .int (nI (224 + i))), (0, .ref y), (2, .int (nI (pp + tx.length)))] := hl
        refine lv_aload_n hx hb d_MO_lead_26 rfl (lv_at hl 2 rfl) ?_
        refine va_get (D := (dC, dI)) (ci := 12) (v := .ref a_kind) (C := R_MO) (T := T_MO) (N := 41) hx hb htb in_MO hown hK hP 5 rfl rfl 3 (by decide) (htb _ m_1142) (fun _ h9 => h9) rfl d_MO_lead_27 ?_
        refine lv_iload_n hx hb d_MO_lead_30 rfl (lv_at hl 1 rfl) ?_
        have hdR : tx.drop (a + 1 + s1.length) = R1 := drop_R hdr
        obtain ⟨d2, hd2⟩ : ∃ d2, d1 = d2 + 1 := by cases d1 with | zero => exact hW1.elim | succ d2 => exact ⟨d2, rfl⟩
        have hW2 : WR (d2 + 1) w1 := hd2 ▸ hW1
        obtain ⟨k, num, rt, e1, hk, hk5, hk6, hws⟩ := wr_parts hW2
        have hSU2 : SUB w0 i l1 nm1 ((k, 0, num, rt, []) :: kidRows k (ksN w1) (ksR w1)) := e1 ▸ hSU
        have hW3 : WR (d2 + 1) ((k, 0, num, rt, []) :: kidRows k (ksN w1) (ksR w1)) := e1 ▸ hW2
        have hkf := (hTR.at hSU2.row).2.1
        have hkid := hSU2.kids (ksN_len w1) hws
        have hend := hSU2.end_ hW3 (ksN_len w1)
        refine va_iald hx hb hK hP 1 0 rfl rfl (vp_in_nI (by omega) (by omega)) d_MO_lead_31 ?_
        refine W.eq (congrArg (fun z => F0 m 32 ls (.int z :: [])) (by rw [nI_clamp (by omega)]; exact hkf : (kf (nI (224 + i)).toNatClampNeg) = nI k)) ?_
        refine lv_bipush (v := 6) hx hb d_MO_lead_32 (by decide) ?_
        refine lv_icmp_ne (tgt := 47) hx hb d_MO_lead_34 rfl (fun h3 => ?_) (fun h3 => ?_)
        · have h3 : ¬ k = 6 := fun h => h3 (by rw [h]; rfl)
          refine lv_aload_n hx hb d_MO_lead_47 rfl (lv_at hl 2 rfl) ?_
          refine lv_bipush (v := 7) hx hb d_MO_lead_48 (by decide) ?_
          refine lv_iload_n hx hb d_MO_lead_50 rfl (lv_at hl 1 rfl) ?_
          refine lv_aload_n hx hb d_MO_lead_51 rfl (lv_at hl 2 rfl) ?_
          have hPc : va_P (dC, dI) vwCl [(y, .inr (12, [.int lim, .int rm, .ref a_size, .ref a_kind, .ref a_level, .ref a_at, .ref a_len, .ref a_nameAt, .ref a_nameLen, .ref a_num, .ref a_pool, .int i_pooled, .ref a_draft, .int i_drafted, .int i_pos, .int i_code, .ref a_open, .int i_opened, .int i_heldAt, .int i_heldLen, .ref a_word, .int (nI q1.length), .int i_literalKind, .int i_bad, .int i_given, .long i_literal, .ref a_list, .ref a_next, .ref a_result, .int i_listed, .int i_found, .int i_last, .int i_results, .int i_full, .int i_working, .ref a_twin, .int i_seen, .int i_wanted, .int i_got, .ref a_came, .ref a_closer])), (a_word, .inl (cC, 160, .inl u1))] _ := hP.sub (ws' := [(y, .inr (12, [.int lim, .int rm, .ref a_size, .ref a_kind, .ref a_level, .ref a_at, .ref a_len, .ref a_nameAt, .ref a_nameLen, .ref a_num, .ref a_pool, .int i_pooled, .ref a_draft, .int i_drafted, .int i_pos, .int i_code, .ref a_open, .int i_opened, .int i_heldAt, .int i_heldLen, .ref a_word, .int (nI q1.length), .int i_literalKind, .int i_bad, .int i_given, .long i_literal, .ref a_list, .ref a_next, .ref a_result, .int i_listed, .int i_found, .int i_last, .int i_results, .int i_full, .int i_working, .ref a_twin, .int i_seen, .int i_wanted, .int i_got, .ref a_came, .ref a_closer])), (a_word, .inl (cC, 160, .inl u1))]) [5, 7] rfl
          have hKc := hK.sub (tys' := [(cC, .char)]) [1] rfl
          refine vp_callSi (W.runV (As := []) (rest := [.int (nI (224 + i)), .int 7, .ref y]) ⟨hx, hb, hml, hown, htb⟩ (q_MO_wordNumber l dC dI y lim rm i_literal a_size a_kind a_level a_at a_len a_nameAt a_nameLen a_num a_pool a_draft a_open a_word a_list a_next a_result a_twin a_came a_closer i_pooled i_drafted i_pos i_code i_opened i_heldAt i_heldLen i_literalKind i_bad i_given i_listed i_found i_last i_results i_full i_working i_seen i_wanted i_got cC u1 q1 hwz (by omega) hqc.1) (cwV 0 htb (g_V (fun _ h => h) m_1425 m_1422 m_1424 m_1679 m_9) rfl rfl rfl (by decide +kernel) ⟨Nat.le_of_ble_eq_true rfl, Nat.le_of_ble_eq_true rfl⟩) ⟨fun a U g mk q => by obtain ⟨q0, qP, qK⟩ := q; exact ⟨q0, qP, va_K.moved (u := U) (U := U.calling g mk a) (Vm.Alike.refl U.vm) qK⟩, va_recv hKc hPc (ci := 12) rfl (q0 := 0) rfl, fun U hU hW => ⟨rfl, by rw [hU]; exact hPc, va_K.moved hW.alike hKc⟩⟩ rfl rfl hl.1 rfl (lv_room (Nat.le_of_ble_eq_true rfl)) d_MO_lead_52 ⟨Nat.le_of_ble_eq_true rfl, Nat.le_of_ble_eq_true rfl⟩) (fun r5 hw6 => ?_)
          have hw6 : r5 = oI (wnum q1) := hw6
          obtain rfl := hw6
          refine W.eq (g2 := F0 m 55 ls [.int (oI (wnum q1)), .int (nI (bsK 7 + i)), .int 7, .ref y]) rfl ?_
          have hPc : va_P (dC, dI) vwCl [(y, .inr (12, [.int lim, .int rm, .ref a_size, .ref a_kind, .ref a_level, .ref a_at, .ref a_len, .ref a_nameAt, .ref a_nameLen, .ref a_num, .ref a_pool, .int i_pooled, .ref a_draft, .int i_drafted, .int i_pos, .int i_code, .ref a_open, .int i_opened, .int i_heldAt, .int i_heldLen, .ref a_word, .int (nI q1.length), .int i_literalKind, .int i_bad, .int i_given, .long i_literal, .ref a_list, .ref a_next, .ref a_result, .int i_listed, .int i_found, .int i_last, .int i_results, .int i_full, .int i_working, .ref a_twin, .int i_seen, .int i_wanted, .int i_got, .ref a_came, .ref a_closer])), (a_size, .inl (cI, 10, .inl sf)), (a_level, .inl (cI, 576, .inl vf)), (a_kind, .inl (cI, 576, .inl kf))] _ := hP.sub (ws' := [(y, .inr (12, [.int lim, .int rm, .ref a_size, .ref a_kind, .ref a_level, .ref a_at, .ref a_len, .ref a_nameAt, .ref a_nameLen, .ref a_num, .ref a_pool, .int i_pooled, .ref a_draft, .int i_drafted, .int i_pos, .int i_code, .ref a_open, .int i_opened, .int i_heldAt, .int i_heldLen, .ref a_word, .int (nI q1.length), .int i_literalKind, .int i_bad, .int i_given, .long i_literal, .ref a_list, .ref a_next, .ref a_result, .int i_listed, .int i_found, .int i_last, .int i_results, .int i_full, .int i_working, .ref a_twin, .int i_seen, .int i_wanted, .int i_got, .ref a_came, .ref a_closer])), (a_size, .inl (cI, 10, .inl sf)), (a_level, .inl (cI, 576, .inl vf)), (a_kind, .inl (cI, 576, .inl kf))]) [5, 0, 2, 1] rfl
          have hKc := hK.sub (tys' := [(cI, .int)]) [0] rfl
          refine vp_callSi (W.runV (As := [.int (nI 7), .int (nI (bsK 7 + i)), .int (oI (wnum q1))]) (rest := []) ⟨hx, hb, hml, hown, htb⟩ (q_MO_element l dC dI y lim rm i_literal a_size a_kind a_level a_at a_len a_nameAt a_nameLen a_num a_pool a_draft a_open a_word a_list a_next a_result a_twin a_came a_closer i_pooled i_drafted i_pos i_code i_opened i_heldAt i_heldLen (nI q1.length) i_literalKind i_bad i_given i_listed i_found i_last i_results i_full i_working i_seen i_wanted i_got cI sf vf 7 w0 i l1 nm1 k num rt (ksN w1) (ksR w1) d2 kf (oI (wnum q1)) (by decide) hsf (by omega) hlv hSU2 hW3 (ksN_len w1) hws hkf hk6) (cwV 3 htb (g_V (fun _ h => h) m_1429 m_1426 m_1428 m_1680 m_9) rfl rfl rfl (by decide +kernel) ⟨Nat.le_of_ble_eq_true rfl, Nat.le_of_ble_eq_true rfl⟩) ⟨fun a U g mk q => by obtain ⟨q0, qP, qK⟩ := q; exact ⟨q0, qP, va_K.moved (u := U) (U := U.calling g mk a) (Vm.Alike.refl U.vm) qK⟩, va_recv hKc hPc (ci := 12) rfl (q0 := 0) rfl, fun U hU hW => ⟨rfl, by rw [hU]; exact hPc, va_K.moved hW.alike hKc⟩⟩ rfl rfl hl.1 rfl (lv_room (Nat.le_of_ble_eq_true rfl)) d_MO_lead_55 ⟨Nat.le_of_ble_eq_true rfl, Nat.le_of_ble_eq_true rfl⟩) (fun r7 hw8 => ?_)
          have hw8 : r7 = if k = 5 ∧ ¬ (oI (wnum q1)) < 0 ∧ (oI (wnum q1)).toNatClampNeg < (ksR w1).length then nI (bsK 7 + (i + 1 + slen ((ksR w1).take (oI (wnum q1)).toNatClampNeg))) else -1 := hw8
          have hoe := oI_elm (rows := w1) hqc.1 (fun h => h3 (hk.symm.trans h))
          rw [hk] at hoe
          rcases hst : stp w1 q1 with _ | t0
          · have hr : r7 = -1 := by rw [hw8]; exact elm_none (d := d2) hoe hst
            subst hr
            have htp : trp ss w0 0 = none := by rw [← hi3, hst]; rfl
            refine lv_istore_n hx hb d_MO_lead_58 rfl hl (by decide) rfl (fun ls hl => ?_)
            have hl : lv_has ls 5 [(3, .int (-1)), (4, .int (nI (pp + (a + 1 + s1.length)))), (0, .ref y), (2, .int (nI (pp + tx.length)))] := hl
            refine lv_goto (tgt := 7) hx hb d_MO_lead_59 rfl ?_
            refine lv_iload hx hb d_MO_lead_7 (lv_at hl 1 rfl) ?_
            refine lv_iload_n hx hb d_MO_lead_9 rfl (lv_at hl 3 rfl) ?_
            refine lv_icmp_ge (tgt := 62) hx hb d_MO_lead_10 rfl (fun h5 => ?_) (fun h5 => ?_)
            · refine lv_iload_n hx hb d_MO_lead_62 rfl (lv_at hl 0 rfl) ?_
              have hP9 := hP.sub (ws' := [(y, .inr (12, [.int lim, .int rm, .ref a_size, .ref a_kind, .ref a_level, .ref a_at, .ref a_len, .ref a_nameAt, .ref a_nameLen, .ref a_num, .ref a_pool, .int i_pooled, .ref a_draft, .int i_drafted, .int i_pos, .int i_code, .ref a_open, .int i_opened, .int i_heldAt, .int i_heldLen, .ref a_word, .int (nI q1.length), .int i_literalKind, .int i_bad, .int i_given, .long i_literal, .ref a_list, .ref a_next, .ref a_result, .int i_listed, .int i_found, .int i_last, .int i_results, .int i_full, .int i_working, .ref a_twin, .int i_seen, .int i_wanted, .int i_got, .ref a_came, .ref a_closer])), (a_pool, .inl (cC, 8400, .inl pf)), (a_word, .inl (cC, 160, .inl u1)), (a_size, .inl (cI, 10, .inl sf)), (a_kind, .inl (cI, 576, .inl kf)), (a_level, .inl (cI, 576, .inl vf)), (a_nameAt, .inl (cI, 576, .inl xf)), (a_nameLen, .inl (cI, 576, .inl nf))]) [5, 6, 7, 0, 1, 2, 3, 4] rfl
              have hD9 := hD.sub (ws' := [(y, .inr (12, [.int lim, .int rm, .ref a_size, .ref a_kind, .ref a_level, .ref a_at, .ref a_len, .ref a_nameAt, .ref a_nameLen, .ref a_num, .ref a_pool, .int i_pooled, .ref a_draft, .int i_drafted, .int i_pos, .int i_code, .ref a_open, .int i_opened, .int i_heldAt, .int i_heldLen, .ref a_word, .int (nI q1.length), .int i_literalKind, .int i_bad, .int i_given, .long i_literal, .ref a_list, .ref a_next, .ref a_result, .int i_listed, .int i_found, .int i_last, .int i_results, .int i_full, .int i_working, .ref a_twin, .int i_seen, .int i_wanted, .int i_got, .ref a_came, .ref a_closer])), (a_pool, .inl (cC, 8400, .inl pf)), (a_word, .inl (cC, 160, .inl u1)), (a_size, .inl (cI, 10, .inl sf)), (a_kind, .inl (cI, 576, .inl kf)), (a_level, .inl (cI, 576, .inl vf)), (a_nameAt, .inl (cI, 576, .inl xf)), (a_nameLen, .inl (cI, 576, .inl nf))]) [5, 6, 7, 0, 1, 2, 3, 4] (by decide) rfl
              have hK9 := hK.sub (tys' := [(cI, .int), (cC, .char)]) [0, 1] rfl
              rw [hQ]
              refine W.widen (k := 0) (n := 0) (Nat.le_of_ble_eq_true rfl) (Nat.le_of_ble_eq_true rfl) ?_
              exact W.iret (v := (-1)) hx hb hr (fun t ht hW => ⟨⟨(-1), (nI q1.length, u1), rfl, by rw [htp], ⟨by rw [ht]; exact hP9, va_K.moved hW.alike hK9, hD9⟩⟩, hS.F ht⟩) hS.2.2 d_MO_lead_63
            · refine lv_iload_n hx hb d_MO_lead_13 rfl (lv_at hl 0 rfl) ?_
              refine lv_if_lt (tgt := 62) hx hb d_MO_lead_14 rfl (fun _ => ?_) (fun h9 => absurd (by decide) h9)
              refine lv_iload_n hx hb d_MO_lead_62 rfl (lv_at hl 0 rfl) ?_
              have hP9 := hP.sub (ws' := [(y, .inr (12, [.int lim, .int rm, .ref a_size, .ref a_kind, .ref a_level, .ref a_at, .ref a_len, .ref a_nameAt, .ref a_nameLen, .ref a_num, .ref a_pool, .int i_pooled, .ref a_draft, .int i_drafted, .int i_pos, .int i_code, .ref a_open, .int i_opened, .int i_heldAt, .int i_heldLen, .ref a_word, .int (nI q1.length), .int i_literalKind, .int i_bad, .int i_given, .long i_literal, .ref a_list, .ref a_next, .ref a_result, .int i_listed, .int i_found, .int i_last, .int i_results, .int i_full, .int i_working, .ref a_twin, .int i_seen, .int i_wanted, .int i_got, .ref a_came, .ref a_closer])), (a_pool, .inl (cC, 8400, .inl pf)), (a_word, .inl (cC, 160, .inl u1)), (a_size, .inl (cI, 10, .inl sf)), (a_kind, .inl (cI, 576, .inl kf)), (a_level, .inl (cI, 576, .inl vf)), (a_nameAt, .inl (cI, 576, .inl xf)), (a_nameLen, .inl (cI, 576, .inl nf))]) [5, 6, 7, 0, 1, 2, 3, 4] rfl
              have hD9 := hD.sub (ws' := [(y, .inr (12, [.int lim, .int rm, .ref a_size, .ref a_kind, .ref a_level, .ref a_at, .ref a_len, .ref a_nameAt, .ref a_nameLen, .ref a_num, .ref a_pool, .int i_pooled, .ref a_draft, .int i_drafted, .int i_pos, .int i_code, .ref a_open, .int i_opened, .int i_heldAt, .int i_heldLen, .ref a_word, .int (nI q1.length), .int i_literalKind, .int i_bad, .int i_given, .long i_literal, .ref a_list, .ref a_next, .ref a_result, .int i_listed, .int i_found, .int i_last, .int i_results, .int i_full, .int i_working, .ref a_twin, .int i_seen, .int i_wanted, .int i_got, .ref a_came, .ref a_closer])), (a_pool, .inl (cC, 8400, .inl pf)), (a_word, .inl (cC, 160, .inl u1)), (a_size, .inl (cI, 10, .inl sf)), (a_kind, .inl (cI, 576, .inl kf)), (a_level, .inl (cI, 576, .inl vf)), (a_nameAt, .inl (cI, 576, .inl xf)), (a_nameLen, .inl (cI, 576, .inl nf))]) [5, 6, 7, 0, 1, 2, 3, 4] (by decide) rfl
              have hK9 := hK.sub (tys' := [(cI, .int), (cC, .char)]) [0, 1] rfl
              rw [hQ]
              refine W.widen (k := 0) (n := 0) (Nat.le_of_ble_eq_true rfl) (Nat.le_of_ble_eq_true rfl) ?_
              exact W.iret (v := (-1)) hx hb hr (fun t ht hW => ⟨⟨(-1), (nI q1.length, u1), rfl, by rw [htp], ⟨by rw [ht]; exact hP9, va_K.moved hW.alike hK9, hD9⟩⟩, hS.F ht⟩) hS.2.2 d_MO_lead_63
          · have hr : r7 = nI (224 + (i + 1 + slen ((ksR w1).take t0))) := by rw [hw8]; exact elm_some hqc.1 (fun h => h3 (hk.symm.trans h)) hk hst
            subst hr
            have htl := (stp_lt hst).1
            rw [hst, Option.bind_some] at hi3
            refine lv_istore_n hx hb d_MO_lead_58 rfl hl (by decide) rfl (fun ls hl => ?_)
            have hl : lv_has ls 5 [(3, .int (nI (224 + (i + 1 + slen ((ksR w1).take t0))))), (4, .int (nI (pp + (a + 1 + s1.length)))), (0, .ref y), (2, .int (nI (pp + tx.length)))] := hl
            refine lv_goto (tgt := 7) hx hb d_MO_lead_59 rfl ?_
            exact ih (tx.length - (a + 1 + s1.length)) (by omega) (a + 1 + s1.length) qs (i + 1 + slen ((ksR w1).take t0)) ((ksR w1).getD t0 []) d2 (l1 + 1) (if k = 6 then 0 :: (ksN w1).getD t0 [] else []) (nI q1.length) u1 H locs ls rfl (by omega) (by rw [hdR]; exact hqs) (hkid.at htl) (by rw [List.getD_eq_getElem?_getD, List.getElem?_eq_getElem htl]; exact hws _ (List.getElem_mem htl)) (hi3) (lv_sub hl [1, 0, 2, 3] rfl) (hP.sub (ws' := [(y, .inr (12, [.int lim, .int rm, .ref a_size, .ref a_kind, .ref a_level, .ref a_at, .ref a_len, .ref a_nameAt, .ref a_nameLen, .ref a_num, .ref a_pool, .int i_pooled, .ref a_draft, .int i_drafted, .int i_pos, .int i_code, .ref a_open, .int i_opened, .int i_heldAt, .int i_heldLen, .ref a_word, .int (nI q1.length), .int i_literalKind, .int i_bad, .int i_given, .long i_literal, .ref a_list, .ref a_next, .ref a_result, .int i_listed, .int i_found, .int i_last, .int i_results, .int i_full, .int i_working, .ref a_twin, .int i_seen, .int i_wanted, .int i_got, .ref a_came, .ref a_closer])), (a_pool, .inl (cC, 8400, .inl pf)), (a_word, .inl (cC, 160, .inl u1)), (a_size, .inl (cI, 10, .inl sf)), (a_kind, .inl (cI, 576, .inl kf)), (a_level, .inl (cI, 576, .inl vf)), (a_nameAt, .inl (cI, 576, .inl xf)), (a_nameLen, .inl (cI, 576, .inl nf))]) [5, 6, 7, 0, 1, 2, 3, 4] rfl) (hD.sub (ws' := [(y, .inr (12, [.int lim, .int rm, .ref a_size, .ref a_kind, .ref a_level, .ref a_at, .ref a_len, .ref a_nameAt, .ref a_nameLen, .ref a_num, .ref a_pool, .int i_pooled, .ref a_draft, .int i_drafted, .int i_pos, .int i_code, .ref a_open, .int i_opened, .int i_heldAt, .int i_heldLen, .ref a_word, .int (nI q1.length), .int i_literalKind, .int i_bad, .int i_given, .long i_literal, .ref a_list, .ref a_next, .ref a_result, .int i_listed, .int i_found, .int i_last, .int i_results, .int i_full, .int i_working, .ref a_twin, .int i_seen, .int i_wanted, .int i_got, .ref a_came, .ref a_closer])), (a_pool, .inl (cC, 8400, .inl pf)), (a_word, .inl (cC, 160, .inl u1)), (a_size, .inl (cI, 10, .inl sf)), (a_kind, .inl (cI, 576, .inl kf)), (a_level, .inl (cI, 576, .inl vf)), (a_nameAt, .inl (cI, 576, .inl xf)), (a_nameLen, .inl (cI, 576, .inl nf))]) [5, 6, 7, 0, 1, 2, 3, 4] (by decide) rfl) hS
        · have h3 : k = 6 := (nI_eq (by omega) (by decide)).mp h3
          subst h3
          refine lv_aload_n hx hb d_MO_lead_37 rfl (lv_at hl 2 rfl) ?_
          refine lv_bipush (v := 7) hx hb d_MO_lead_38 (by decide) ?_
          refine lv_iload_n hx hb d_MO_lead_40 rfl (lv_at hl 1 rfl) ?_
          refine W.eq (congrArg (fun z => F0 m 41 ls (.int z :: [.int 7, .ref y])) (rfl : (nI (224 + i)) = nI (bsK 7 + i))) ?_
          have hPc : va_P (dC, dI) vwCl [(y, .inr (12, [.int lim, .int rm, .ref a_size, .ref a_kind, .ref a_level, .ref a_at, .ref a_len, .ref a_nameAt, .ref a_nameLen, .ref a_num, .ref a_pool, .int i_pooled, .ref a_draft, .int i_drafted, .int i_pos, .int i_code, .ref a_open, .int i_opened, .int i_heldAt, .int i_heldLen, .ref a_word, .int (nI q1.length), .int i_literalKind, .int i_bad, .int i_given, .long i_literal, .ref a_list, .ref a_next, .ref a_result, .int i_listed, .int i_found, .int i_last, .int i_results, .int i_full, .int i_working, .ref a_twin, .int i_seen, .int i_wanted, .int i_got, .ref a_came, .ref a_closer])), (a_size, .inl (cI, 10, .inl sf)), (a_level, .inl (cI, 576, .inl vf)), (a_kind, .inl (cI, 576, .inl kf)), (a_nameAt, .inl (cI, 576, .inl xf)), (a_nameLen, .inl (cI, 576, .inl nf)), (a_pool, .inl (cC, 8400, .inl pf)), (a_word, .inl (cC, 160, .inl u1))] _ := hP.sub (ws' := [(y, .inr (12, [.int lim, .int rm, .ref a_size, .ref a_kind, .ref a_level, .ref a_at, .ref a_len, .ref a_nameAt, .ref a_nameLen, .ref a_num, .ref a_pool, .int i_pooled, .ref a_draft, .int i_drafted, .int i_pos, .int i_code, .ref a_open, .int i_opened, .int i_heldAt, .int i_heldLen, .ref a_word, .int (nI q1.length), .int i_literalKind, .int i_bad, .int i_given, .long i_literal, .ref a_list, .ref a_next, .ref a_result, .int i_listed, .int i_found, .int i_last, .int i_results, .int i_full, .int i_working, .ref a_twin, .int i_seen, .int i_wanted, .int i_got, .ref a_came, .ref a_closer])), (a_size, .inl (cI, 10, .inl sf)), (a_level, .inl (cI, 576, .inl vf)), (a_kind, .inl (cI, 576, .inl kf)), (a_nameAt, .inl (cI, 576, .inl xf)), (a_nameLen, .inl (cI, 576, .inl nf)), (a_pool, .inl (cC, 8400, .inl pf)), (a_word, .inl (cC, 160, .inl u1))]) [5, 0, 2, 1, 3, 4, 6, 7] rfl
          have hKc := hK.sub (tys' := [(cI, .int), (cC, .char)]) [0, 1] rfl
          refine vp_callSi (W.runV (As := [.int (nI 7), .int (nI (bsK 7 + i))]) (rest := []) ⟨hx, hb, hml, hown, htb⟩ (q_MO_member l dC dI y lim rm i_literal a_size a_kind a_level a_at a_len a_nameAt a_nameLen a_num a_pool a_draft a_open a_word a_list a_next a_result a_twin a_came a_closer i_pooled i_drafted i_pos i_code i_opened i_heldAt i_heldLen i_literalKind i_bad i_given i_listed i_found i_last i_results i_full i_working i_seen i_wanted i_got cI cC sf vf kf xf nf pf u1 7 w0.length (lvR w0) i pn q1 (fun j => (nmR w0 j).drop 1) (mbK (ksR w1) (i + 1)) (by decide) hsf (by omega) hlv (by omega) hkf (fun j hj => hkid.names hTR hj) (fun h => hkid.first hend h) (fun j hj h => hkid.next hend hj h) hpn hwz (by omega) hqc.1) (cwV 2 htb (g_V (fun _ h => h) m_1334 m_1331 m_1333 m_1661 m_9) rfl rfl rfl (by decide +kernel) ⟨Nat.le_of_ble_eq_true rfl, Nat.le_of_ble_eq_true rfl⟩) ⟨fun a U g mk q => by obtain ⟨q0, qP, qK⟩ := q; exact ⟨q0, qP, va_K.moved (u := U) (U := U.calling g mk a) (Vm.Alike.refl U.vm) qK⟩, va_recv hKc hPc (ci := 12) rfl (q0 := 0) rfl, fun U hU hW => ⟨rfl, by rw [hU]; exact hPc, va_K.moved hW.alike hKc⟩⟩ rfl rfl hl.1 rfl (lv_room (Nat.le_of_ble_eq_true rfl)) d_MO_lead_41 ⟨Nat.le_of_ble_eq_true rfl, Nat.le_of_ble_eq_true rfl⟩) (fun r5 hw6 => ?_)
          have hw6 : r5 = (match mbr (lvR w0) (fun j => (nmR w0 j).drop 1) w0.length (bhd (lvR w0) w0.length ((lvR w0) i) (i + 1)) q1 (i + 1) with | none => -1 | some q => nI (bsK 7 + q)) := hw6
          rw [hend, hkid.find (tx := q1) rfl] at hw6
          have hse : stp w1 q1 = nix q1 (ksN w1) := if_pos hk
          rcases hx0 : nix q1 (ksN w1) with _ | t0
          · rw [hx0] at hw6
            have hr : r5 = -1 := hw6
            subst hr
            have hst : stp w1 q1 = none := hse.trans hx0
            have htp : trp ss w0 0 = none := by rw [← hi3, hst]; rfl
            refine lv_goto (tgt := 58) hx hb d_MO_lead_44 rfl ?_
            refine lv_istore_n hx hb d_MO_lead_58 rfl hl (by decide) rfl (fun ls hl => ?_)
            have hl : lv_has ls 5 [(3, .int (-1)), (4, .int (nI (pp + (a + 1 + s1.length)))), (0, .ref y), (2, .int (nI (pp + tx.length)))] := hl
            refine lv_goto (tgt := 7) hx hb d_MO_lead_59 rfl ?_
            refine lv_iload hx hb d_MO_lead_7 (lv_at hl 1 rfl) ?_
            refine lv_iload_n hx hb d_MO_lead_9 rfl (lv_at hl 3 rfl) ?_
            refine lv_icmp_ge (tgt := 62) hx hb d_MO_lead_10 rfl (fun h5 => ?_) (fun h5 => ?_)
            · refine lv_iload_n hx hb d_MO_lead_62 rfl (lv_at hl 0 rfl) ?_
              have hP9 := hP.sub (ws' := [(y, .inr (12, [.int lim, .int rm, .ref a_size, .ref a_kind, .ref a_level, .ref a_at, .ref a_len, .ref a_nameAt, .ref a_nameLen, .ref a_num, .ref a_pool, .int i_pooled, .ref a_draft, .int i_drafted, .int i_pos, .int i_code, .ref a_open, .int i_opened, .int i_heldAt, .int i_heldLen, .ref a_word, .int (nI q1.length), .int i_literalKind, .int i_bad, .int i_given, .long i_literal, .ref a_list, .ref a_next, .ref a_result, .int i_listed, .int i_found, .int i_last, .int i_results, .int i_full, .int i_working, .ref a_twin, .int i_seen, .int i_wanted, .int i_got, .ref a_came, .ref a_closer])), (a_pool, .inl (cC, 8400, .inl pf)), (a_word, .inl (cC, 160, .inl u1)), (a_size, .inl (cI, 10, .inl sf)), (a_kind, .inl (cI, 576, .inl kf)), (a_level, .inl (cI, 576, .inl vf)), (a_nameAt, .inl (cI, 576, .inl xf)), (a_nameLen, .inl (cI, 576, .inl nf))]) [5, 6, 7, 0, 1, 2, 3, 4] rfl
              have hD9 := hD.sub (ws' := [(y, .inr (12, [.int lim, .int rm, .ref a_size, .ref a_kind, .ref a_level, .ref a_at, .ref a_len, .ref a_nameAt, .ref a_nameLen, .ref a_num, .ref a_pool, .int i_pooled, .ref a_draft, .int i_drafted, .int i_pos, .int i_code, .ref a_open, .int i_opened, .int i_heldAt, .int i_heldLen, .ref a_word, .int (nI q1.length), .int i_literalKind, .int i_bad, .int i_given, .long i_literal, .ref a_list, .ref a_next, .ref a_result, .int i_listed, .int i_found, .int i_last, .int i_results, .int i_full, .int i_working, .ref a_twin, .int i_seen, .int i_wanted, .int i_got, .ref a_came, .ref a_closer])), (a_pool, .inl (cC, 8400, .inl pf)), (a_word, .inl (cC, 160, .inl u1)), (a_size, .inl (cI, 10, .inl sf)), (a_kind, .inl (cI, 576, .inl kf)), (a_level, .inl (cI, 576, .inl vf)), (a_nameAt, .inl (cI, 576, .inl xf)), (a_nameLen, .inl (cI, 576, .inl nf))]) [5, 6, 7, 0, 1, 2, 3, 4] (by decide) rfl
              have hK9 := hK.sub (tys' := [(cI, .int), (cC, .char)]) [0, 1] rfl
              rw [hQ]
              refine W.widen (k := 0) (n := 0) (Nat.le_of_ble_eq_true rfl) (Nat.le_of_ble_eq_true rfl) ?_
              exact W.iret (v := (-1)) hx hb hr (fun t ht hW => ⟨⟨(-1), (nI q1.length, u1), rfl, by rw [htp], ⟨by rw [ht]; exact hP9, va_K.moved hW.alike hK9, hD9⟩⟩, hS.F ht⟩) hS.2.2 d_MO_lead_63
            · refine lv_iload_n hx hb d_MO_lead_13 rfl (lv_at hl 0 rfl) ?_
              refine lv_if_lt (tgt := 62) hx hb d_MO_lead_14 rfl (fun _ => ?_) (fun h9 => absurd (by decide) h9)
              refine lv_iload_n hx hb d_MO_lead_62 rfl (lv_at hl 0 rfl) ?_
              have hP9 := hP.sub (ws' := [(y, .inr (12, [.int lim, .int rm, .ref a_size, .ref a_kind, .ref a_level, .ref a_at, .ref a_len, .ref a_nameAt, .ref a_nameLen, .ref a_num, .ref a_pool, .int i_pooled, .ref a_draft, .int i_drafted, .int i_pos, .int i_code, .ref a_open, .int i_opened, .int i_heldAt, .int i_heldLen, .ref a_word, .int (nI q1.length), .int i_literalKind, .int i_bad, .int i_given, .long i_literal, .ref a_list, .ref a_next, .ref a_result, .int i_listed, .int i_found, .int i_last, .int i_results, .int i_full, .int i_working, .ref a_twin, .int i_seen, .int i_wanted, .int i_got, .ref a_came, .ref a_closer])), (a_pool, .inl (cC, 8400, .inl pf)), (a_word, .inl (cC, 160, .inl u1)), (a_size, .inl (cI, 10, .inl sf)), (a_kind, .inl (cI, 576, .inl kf)), (a_level, .inl (cI, 576, .inl vf)), (a_nameAt, .inl (cI, 576, .inl xf)), (a_nameLen, .inl (cI, 576, .inl nf))]) [5, 6, 7, 0, 1, 2, 3, 4] rfl
              have hD9 := hD.sub (ws' := [(y, .inr (12, [.int lim, .int rm, .ref a_size, .ref a_kind, .ref a_level, .ref a_at, .ref a_len, .ref a_nameAt, .ref a_nameLen, .ref a_num, .ref a_pool, .int i_pooled, .ref a_draft, .int i_drafted, .int i_pos, .int i_code, .ref a_open, .int i_opened, .int i_heldAt, .int i_heldLen, .ref a_word, .int (nI q1.length), .int i_literalKind, .int i_bad, .int i_given, .long i_literal, .ref a_list, .ref a_next, .ref a_result, .int i_listed, .int i_found, .int i_last, .int i_results, .int i_full, .int i_working, .ref a_twin, .int i_seen, .int i_wanted, .int i_got, .ref a_came, .ref a_closer])), (a_pool, .inl (cC, 8400, .inl pf)), (a_word, .inl (cC, 160, .inl u1)), (a_size, .inl (cI, 10, .inl sf)), (a_kind, .inl (cI, 576, .inl kf)), (a_level, .inl (cI, 576, .inl vf)), (a_nameAt, .inl (cI, 576, .inl xf)), (a_nameLen, .inl (cI, 576, .inl nf))]) [5, 6, 7, 0, 1, 2, 3, 4] (by decide) rfl
              have hK9 := hK.sub (tys' := [(cI, .int), (cC, .char)]) [0, 1] rfl
              rw [hQ]
              refine W.widen (k := 0) (n := 0) (Nat.le_of_ble_eq_true rfl) (Nat.le_of_ble_eq_true rfl) ?_
              exact W.iret (v := (-1)) hx hb hr (fun t ht hW => ⟨⟨(-1), (nI q1.length, u1), rfl, by rw [htp], ⟨by rw [ht]; exact hP9, va_K.moved hW.alike hK9, hD9⟩⟩, hS.F ht⟩) hS.2.2 d_MO_lead_63
          · rw [hx0] at hw6
            have hr : r5 = nI (224 + (i + 1 + slen ((ksR w1).take t0))) := hw6
            subst hr
            have hst : stp w1 q1 = some t0 := hse.trans hx0
            have htl := (stp_lt hst).1
            rw [hst, Option.bind_some] at hi3
            refine lv_goto (tgt := 58) hx hb d_MO_lead_44 rfl ?_
            refine lv_istore_n hx hb d_MO_lead_58 rfl hl (by decide) rfl (fun ls hl => ?_)
            have hl : lv_has ls 5 [(3, .int (nI (224 + (i + 1 + slen ((ksR w1).take t0))))), (4, .int (nI (pp + (a + 1 + s1.length)))), (0, .ref y), (2, .int (nI (pp + tx.length)))] := hl
            refine lv_goto (tgt := 7) hx hb d_MO_lead_59 rfl ?_
            exact ih (tx.length - (a + 1 + s1.length)) (by omega) (a + 1 + s1.length) qs (i + 1 + slen ((ksR w1).take t0)) ((ksR w1).getD t0 []) d2 (l1 + 1) (if 6 = 6 then 0 :: (ksN w1).getD t0 [] else []) (nI q1.length) u1 H locs ls rfl (by omega) (by rw [hdR]; exact hqs) (hkid.at htl) (by rw [List.getD_eq_getElem?_getD, List.getElem?_eq_getElem htl]; exact hws _ (List.getElem_mem htl)) (hi3) (lv_sub hl [1, 0, 2, 3] rfl) (hP.sub (ws' := [(y, .inr (12, [.int lim, .int rm, .ref a_size, .ref a_kind, .ref a_level, .ref a_at, .ref a_len, .ref a_nameAt, .ref a_nameLen, .ref a_num, .ref a_pool, .int i_pooled, .ref a_draft, .int i_drafted, .int i_pos, .int i_code, .ref a_open, .int i_opened, .int i_heldAt, .int i_heldLen, .ref a_word, .int (nI q1.length), .int i_literalKind, .int i_bad, .int i_given, .long i_literal, .ref a_list, .ref a_next, .ref a_result, .int i_listed, .int i_found, .int i_last, .int i_results, .int i_full, .int i_working, .ref a_twin, .int i_seen, .int i_wanted, .int i_got, .ref a_came, .ref a_closer])), (a_pool, .inl (cC, 8400, .inl pf)), (a_word, .inl (cC, 160, .inl u1)), (a_size, .inl (cI, 10, .inl sf)), (a_kind, .inl (cI, 576, .inl kf)), (a_level, .inl (cI, 576, .inl vf)), (a_nameAt, .inl (cI, 576, .inl xf)), (a_nameLen, .inl (cI, 576, .inl nf))]) [5, 6, 7, 0, 1, 2, 3, 4] rfl) (hD.sub (ws' := [(y, .inr (12, [.int lim, .int rm, .ref a_size, .ref a_kind, .ref a_level, .ref a_at, .ref a_len, .ref a_nameAt, .ref a_nameLen, .ref a_num, .ref a_pool, .int i_pooled, .ref a_draft, .int i_drafted, .int i_pos, .int i_code, .ref a_open, .int i_opened, .int i_heldAt, .int i_heldLen, .ref a_word, .int (nI q1.length), .int i_literalKind, .int i_bad, .int i_given, .long i_literal, .ref a_list, .ref a_next, .ref a_result, .int i_listed, .int i_found, .int i_last, .int i_results, .int i_full, .int i_working, .ref a_twin, .int i_seen, .int i_wanted, .int i_got, .ref a_came, .ref a_closer])), (a_pool, .inl (cC, 8400, .inl pf)), (a_word, .inl (cC, 160, .inl u1)), (a_size, .inl (cI, 10, .inl sf)), (a_kind, .inl (cI, 576, .inl kf)), (a_level, .inl (cI, 576, .inl vf)), (a_nameAt, .inl (cI, 576, .inl xf)), (a_nameLen, .inl (cI, 576, .inl nf))]) [5, 6, 7, 0, 1, 2, 3, 4] (by decide) rfl) hS
  exact hloop _ 0 ss 0 w0 d 0 ([] : List Nat) i_letters wf _ _ ls rfl (Nat.zero_le _) (hpr) (SUB.root hWR) (hWR) (rfl) (lv_sub hl [0, 1, 2, 4] rfl) (hP.sub (ws' := [(y, .inr (12, [.int lim, .int rm, .ref a_size, .ref a_kind, .ref a_level, .ref a_at, .ref a_len, .ref a_nameAt, .ref a_nameLen, .ref a_num, .ref a_pool, .int i_pooled, .ref a_draft, .int i_drafted, .int i_pos, .int i_code, .ref a_open, .int i_opened, .int i_heldAt, .int i_heldLen, .ref a_word, .int i_letters, .int i_literalKind, .int i_bad, .int i_given, .long i_literal, .ref a_list, .ref a_next, .ref a_result, .int i_listed, .int i_found, .int i_last, .int i_results, .int i_full, .int i_working, .ref a_twin, .int i_seen, .int i_wanted, .int i_got, .ref a_came, .ref a_closer])), (a_pool, .inl (cC, 8400, .inl pf)), (a_word, .inl (cC, 160, .inl wf)), (a_size, .inl (cI, 10, .inl sf)), (a_kind, .inl (cI, 576, .inl kf)), (a_level, .inl (cI, 576, .inl vf)), (a_nameAt, .inl (cI, 576, .inl xf)), (a_nameLen, .inl (cI, 576, .inl nf))]) [0, 1, 2, 3, 4, 5, 6, 7] rfl) (hD.sub (ws' := [(y, .inr (12, [.int lim, .int rm, .ref a_size, .ref a_kind, .ref a_level, .ref a_at, .ref a_len, .ref a_nameAt, .ref a_nameLen, .ref a_num, .ref a_pool, .int i_pooled, .ref a_draft, .int i_drafted, .int i_pos, .int i_code, .ref a_open, .int i_opened, .int i_heldAt, .int i_heldLen, .ref a_word, .int i_letters, .int i_literalKind, .int i_bad, .int i_given, .long i_literal, .ref a_list, .ref a_next, .ref a_result, .int i_listed, .int i_found, .int i_last, .int i_results, .int i_full, .int i_working, .ref a_twin, .int i_seen, .int i_wanted, .int i_got, .ref a_came, .ref a_closer])), (a_pool, .inl (cC, 8400, .inl pf)), (a_word, .inl (cC, 160, .inl wf)), (a_size, .inl (cI, 10, .inl sf)), (a_kind, .inl (cI, 576, .inl kf)), (a_level, .inl (cI, 576, .inl vf)), (a_nameAt, .inl (cI, 576, .inl xf)), (a_nameLen, .inl (cI, 576, .inl nf))]) [0, 1, 2, 3, 4, 5, 6, 7] (by decide) rfl) hS
