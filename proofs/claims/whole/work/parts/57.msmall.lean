theorem not3 {k : Int32} : ¬ k ≤ 2 → 3 ≤ k := by
  intro h
  rw [Int32.le_iff_toInt_le] at h ⊢
  have e2 : (2 : Int32).toInt = 2 := rfl
  have e3 : (3 : Int32).toInt = 3 := rfl
  rw [e2] at h; rw [e3]; omega
theorem is3 {k : Int32} : k ≤ 2 → ¬ 3 ≤ k := by
  intro h
  rw [Int32.le_iff_toInt_le] at h ⊢
  have e2 : (2 : Int32).toInt = 2 := rfl
  have e3 : (3 : Int32).toInt = 3 := rfl
  rw [e2] at h; rw [e3]; omega
theorem i3_in10 {k : Int32} (h1 : ¬ k < 0) (h2 : ¬ 3 ≤ k) : vp_in k 10 := fun h => h.elim h1 (fun h => absurd (i3 h1 h2).1 (by omega))
set_option maxHeartbeats 1000000 in
set_option maxRecDepth 100000 in
/-- isDocument(d) -/
theorem q_MO_isDocument (l : Launch) (dC : Nat → ClassId) (dI : Nat → Nat → Nat) (k : Int32) : Met l y_MO_isDocument ws_MO_isDocument ({ frames := 0, cells := 0, slots := 0, locals := 0 }) (va_Pc [.int k] (fun U => va_P (dC, dI) vwCl [] U.heap ∧ va_K (dC, dI) vwCl [] U)) (vp_Si (fun (r : Int32) => (r = 0 ∧ (k < 0 ∨ 3 ≤ k)) ∨ (r = 1 ∧ ¬ (k < 0 ∨ 3 ≤ k)))) 0 0 (fun _ => False) := by
  refine Met.ofW (cc := c_MO_isDocument) (maxL := 1) (ret := (some .boolean)) (by decide) rfl ?_
  intro p e s m args below meth c s₁ B hml hv
  obtain ⟨rfl, hP, hK⟩ := hv
  have hx := B.exec
  have hb := B.bytes
  have hr := B.returns
  have hts := atoms_spec (ws := ws_MO_isDocument) B.pre
  have htb := fun w (h : w ∈ TBL) => hts w (List.mem_cons_of_mem _ h)
  have hown : s.vm.findClass R_MO = some m.cls := findClass_of_methodNamed B.named
  have hlocks := B.notSynchronized
  have hl := lv_entry ([.int k]) (n := 1) (Nat.le_of_ble_eq_true rfl)
  rw [lg_entry_eq]
  generalize (lg_sl ([.int k]) ++ List.replicate (1 - (lg_sl ([.int k])).length) Slot.unset).toArray = ls at hl ⊢
  have hl : lv_has ls 1 [(0, .int k)] := hl
  refine lv_iload_n hx hb d_MO_isDocument_0 rfl (lv_at hl 0 rfl) ?_
  refine lv_if_lt (tgt := 13) hx hb d_MO_isDocument_1 rfl (fun h1 => ?_) (fun h1 => ?_)
  · refine lv_iconst (v := 0) hx hb d_MO_isDocument_13 (by decide) ?_
    exact W.zret (v := 0) hx hb hr (by decide) (fun t ht hW => ⟨0, rfl, Or.inl ⟨rfl, Or.inl h1⟩, ht⟩) (fun q h => absurd h List.not_mem_nil) d_MO_isDocument_14
  · refine lv_iload_n hx hb d_MO_isDocument_4 rfl (lv_at hl 0 rfl) ?_
    refine lv_iconst (v := 2) hx hb d_MO_isDocument_5 (by decide) ?_
    refine lv_icmp_gt (tgt := 13) hx hb d_MO_isDocument_6 rfl (fun h2 => ?_) (fun h2 => ?_)
    · have h2 : 3 ≤ k := not3 (Int32.not_le.mpr h2)
      refine lv_iconst (v := 0) hx hb d_MO_isDocument_13 (by decide) ?_
      exact W.zret (v := 0) hx hb hr (by decide) (fun t ht hW => ⟨0, rfl, Or.inl ⟨rfl, Or.inr h2⟩, ht⟩) (fun q h => absurd h List.not_mem_nil) d_MO_isDocument_14
    · have h2 : ¬ 3 ≤ k := is3 (Int32.not_lt.mp h2)
      refine lv_iconst (v := 1) hx hb d_MO_isDocument_9 (by decide) ?_
      refine lv_goto (tgt := 14) hx hb d_MO_isDocument_10 rfl ?_
      exact W.zret (v := 1) hx hb hr (by decide) (fun t ht hW => ⟨1, rfl, Or.inr ⟨rfl, fun h => h.elim h1 h2⟩, ht⟩) (fun q h => absurd h List.not_mem_nil) d_MO_isDocument_14
set_option maxHeartbeats 1000000 in
set_option maxRecDepth 100000 in
/-- count(d) -/
theorem q_MO_count (l : Launch) (dC : Nat → ClassId) (dI : Nat → Nat → Nat) (y : Nat) (lim : Int32) (rm : Int32) (i_literal : Int64) (a_size : Nat) (a_kind : Nat) (a_level : Nat) (a_at : Nat) (a_len : Nat) (a_nameAt : Nat) (a_nameLen : Nat) (a_num : Nat) (a_pool : Nat) (a_draft : Nat) (a_open : Nat) (a_word : Nat) (a_list : Nat) (a_next : Nat) (a_result : Nat) (a_twin : Nat) (a_came : Nat) (a_closer : Nat) (i_pooled : Int32) (i_drafted : Int32) (i_pos : Int32) (i_code : Int32) (i_opened : Int32) (i_heldAt : Int32) (i_heldLen : Int32) (i_letters : Int32) (i_literalKind : Int32) (i_bad : Int32) (i_given : Int32) (i_listed : Int32) (i_found : Int32) (i_last : Int32) (i_results : Int32) (i_full : Int32) (i_working : Int32) (i_seen : Int32) (i_wanted : Int32) (i_got : Int32) (cI : ClassId) (sf : Nat → Int32) (k : Int32) (nz3 : Nat → Nat) (hsz : ∀ i, i < 3 → sf i = nI (nz3 i) ∧ nz3 i ≤ 96) : Met l y_MO_count ws_MO_count ({ frames := 1, cells := 0, slots := 0, locals := 20 }) (va_Pc [.ref y, .int k] (fun U => va_P (dC, dI) vwCl [(y, .inr (12, [.int lim, .int rm, .ref a_size, .ref a_kind, .ref a_level, .ref a_at, .ref a_len, .ref a_nameAt, .ref a_nameLen, .ref a_num, .ref a_pool, .int i_pooled, .ref a_draft, .int i_drafted, .int i_pos, .int i_code, .ref a_open, .int i_opened, .int i_heldAt, .int i_heldLen, .ref a_word, .int i_letters, .int i_literalKind, .int i_bad, .int i_given, .long i_literal, .ref a_list, .ref a_next, .ref a_result, .int i_listed, .int i_found, .int i_last, .int i_results, .int i_full, .int i_working, .ref a_twin, .int i_seen, .int i_wanted, .int i_got, .ref a_came, .ref a_closer])), (a_size, .inl (cI, 10, .inl sf))] U.heap ∧ va_K (dC, dI) vwCl [(cI, .int)] U)) (vp_Si (fun (r : Int32) => r = if k < 0 ∨ 3 ≤ k then 0 else nI (nz3 k.toNatClampNeg))) 0 0 (fun _ => False) := by
  refine Met.ofW (cc := c_MO_count) (maxL := 2) (ret := (some .int)) (by decide) rfl ?_
  intro p e s m args below meth c s₁ B hml hv
  obtain ⟨rfl, hP, hK⟩ := hv
  have hx := B.exec
  have hb := B.bytes
  have hr := B.returns
  have hts := atoms_spec (ws := ws_MO_count) B.pre
  have htb := fun w (h : w ∈ TBL) => hts w (List.mem_cons_of_mem _ h)
  have hown : s.vm.findClass R_MO = some m.cls := findClass_of_methodNamed B.named
  have hlocks := B.notSynchronized
  have hl := lv_entry ([.ref y, .int k]) (n := 2) (Nat.le_of_ble_eq_true rfl)
  rw [lg_entry_eq]
  generalize (lg_sl ([.ref y, .int k]) ++ List.replicate (2 - (lg_sl ([.ref y, .int k])).length) Slot.unset).toArray = ls at hl ⊢
  have hl : lv_has ls 2 [(0, .ref y), (1, .int k)] := hl
  refine lv_iload_n hx hb d_MO_count_0 rfl (lv_at hl 1 rfl) ?_
  have hPc : va_P (dC, dI) vwCl [] _ := hP.sub (ws' := []) [] rfl
  have hKc := hK.sub (tys' := []) [] rfl
  refine vp_callSi (W.runS (As := [.int k]) (rest := []) ⟨hx, hb, hml, hown, htb⟩ (q_MO_isDocument l dC dI k ) (va_cwS 1 htb (g_S (fun _ h => h) m_1276 m_1274 m_1275 m_9) rfl rfl rfl (by decide +kernel) ⟨Nat.le_of_ble_eq_true rfl, Nat.le_of_ble_eq_true rfl⟩) ⟨fun a U g mk q => by obtain ⟨q0, qP, qK⟩ := q; exact ⟨q0, qP, va_K.moved (u := U) (U := U.calling g mk a) (Vm.Alike.refl U.vm) qK⟩, fun U hU hW => ⟨rfl, by rw [hU]; exact hPc, va_K.moved hW.alike hKc⟩⟩ rfl rfl hl.1 rfl (lv_room (Nat.le_of_ble_eq_true rfl)) d_MO_count_1 ⟨Nat.le_of_ble_eq_true rfl, Nat.le_of_ble_eq_true rfl⟩) (fun r1 hw2 => ?_)
  have hw2 : (r1 = 0 ∧ (k < 0 ∨ 3 ≤ k)) ∨ (r1 = 1 ∧ ¬ (k < 0 ∨ 3 ≤ k)) := hw2
  rcases hw2 with ⟨rfl, hkk⟩ | ⟨rfl, hkk⟩
  · refine lv_if_eq (tgt := 16) hx hb d_MO_count_4 rfl (fun _ => ?_) (fun h9 => absurd (rfl) h9)
    refine lv_iconst (v := 0) hx hb d_MO_count_16 (by decide) ?_
    exact W.iret (v := 0) hx hb hr (fun t ht hW => ⟨0, rfl, by rw [if_pos hkk], ht⟩) (fun q h => absurd h List.not_mem_nil) d_MO_count_17
  · have hk0 : ¬ k < 0 := fun h => hkk (Or.inl h)
    have hk3 : ¬ 3 ≤ k := fun h => hkk (Or.inr h)
    have hkn := i3 hk0 hk3
    have hs9 := hsz _ hkn.1
    refine lv_if_eq (tgt := 16) hx hb d_MO_count_4 rfl (fun h9 => absurd h9 (by decide)) (fun _ => ?_)
    refine lv_aload_n hx hb d_MO_count_7 rfl (lv_at hl 0 rfl) ?_
    refine va_get (D := (dC, dI)) (ci := 12) (v := .ref a_size) (C := R_MO) (T := T_MO) (N := 41) hx hb htb in_MO hown hK hP 0 rfl rfl 2 (by decide) (htb _ m_1141) (fun _ h9 => h9) rfl d_MO_count_8 ?_
    refine lv_iload_n hx hb d_MO_count_11 rfl (lv_at hl 1 rfl) ?_
    refine va_iald hx hb hK hP 1 0 rfl rfl (i3_in10 hk0 hk3) d_MO_count_12 ?_
    refine W.eq (congrArg (fun z => F0 m 13 ls (.int z :: [])) (hs9.1 : (sf k.toNatClampNeg) = nI (nz3 k.toNatClampNeg))) ?_
    refine lv_goto (tgt := 17) hx hb d_MO_count_13 rfl ?_
    exact W.iret (v := (nI (nz3 k.toNatClampNeg))) hx hb hr (fun t ht hW => ⟨(nI (nz3 k.toNatClampNeg)), rfl, by rw [if_neg hkk], ht⟩) (fun q h => absurd h List.not_mem_nil) d_MO_count_17
set_option maxHeartbeats 1000000 in
set_option maxRecDepth 100000 in
/-- delete(d) -/
theorem k_MO_delete (l : Launch) (dC : Nat → ClassId) (dI : Nat → Nat → Nat) (sz : Nat) (y : Nat) (lim : Int32) (rm : Int32) (i_literal : Int64) (a_size : Nat) (a_kind : Nat) (a_level : Nat) (a_at : Nat) (a_len : Nat) (a_nameAt : Nat) (a_nameLen : Nat) (a_num : Nat) (a_pool : Nat) (a_draft : Nat) (a_open : Nat) (a_word : Nat) (a_list : Nat) (a_next : Nat) (a_result : Nat) (a_twin : Nat) (a_came : Nat) (a_closer : Nat) (i_pooled : Int32) (i_drafted : Int32) (i_pos : Int32) (i_code : Int32) (i_opened : Int32) (i_heldAt : Int32) (i_heldLen : Int32) (i_letters : Int32) (i_literalKind : Int32) (i_bad : Int32) (i_given : Int32) (i_listed : Int32) (i_found : Int32) (i_last : Int32) (i_results : Int32) (i_full : Int32) (i_working : Int32) (i_seen : Int32) (i_wanted : Int32) (i_got : Int32) (cI : ClassId) (sf : Nat → Int32) (k : Int32) (nz3 : Nat → Nat) (hsz : ∀ i, i < 3 → sf i = nI (nz3 i) ∧ nz3 i ≤ 96) : Met l y_MO_delete ws_MO_delete ({ frames := 1, cells := 0, slots := 0, locals := 20 }) (va_Pc [.ref y, .int k] (fun U => U.heap.size = sz ∧ va_P (dC, dI) vwCl [(y, .inr (12, [.int lim, .int rm, .ref a_size, .ref a_kind, .ref a_level, .ref a_at, .ref a_len, .ref a_nameAt, .ref a_nameLen, .ref a_num, .ref a_pool, .int i_pooled, .ref a_draft, .int i_drafted, .int i_pos, .int i_code, .ref a_open, .int i_opened, .int i_heldAt, .int i_heldLen, .ref a_word, .int i_letters, .int i_literalKind, .int i_bad, .int i_given, .long i_literal, .ref a_list, .ref a_next, .ref a_result, .int i_listed, .int i_found, .int i_last, .int i_results, .int i_full, .int i_working, .ref a_twin, .int i_seen, .int i_wanted, .int i_got, .ref a_came, .ref a_closer])), (a_size, .inl (cI, 10, .inl sf))] U.heap ∧ va_K (dC, dI) vwCl [(cI, .int)] U ∧ va_D (fun _ => True) [(y, .inr (12, [.int lim, .int rm, .ref a_size, .ref a_kind, .ref a_level, .ref a_at, .ref a_len, .ref a_nameAt, .ref a_nameLen, .ref a_num, .ref a_pool, .int i_pooled, .ref a_draft, .int i_drafted, .int i_pos, .int i_code, .ref a_open, .int i_opened, .int i_heldAt, .int i_heldLen, .ref a_word, .int i_letters, .int i_literalKind, .int i_bad, .int i_given, .long i_literal, .ref a_list, .ref a_next, .ref a_result, .int i_listed, .int i_found, .int i_last, .int i_results, .int i_full, .int i_working, .ref a_twin, .int i_seen, .int i_wanted, .int i_got, .ref a_came, .ref a_closer])), (a_size, .inl (cI, 10, .inl sf))])) (va_Qi (fun (r : Int32) (u : Nat → Int32) => (r = 0 ∧ ((k < 0 ∨ 3 ≤ k) ∨ nz3 k.toNatClampNeg = 0) ∧ u = sf) ∨ (r = 1 ∧ ¬ (k < 0 ∨ 3 ≤ k) ∧ ¬ nz3 k.toNatClampNeg = 0 ∧ u = upd sf k.toNatClampNeg 0)) (fun u t => va_P (dC, dI) vwCl [(y, .inr (12, [.int lim, .int rm, .ref a_size, .ref a_kind, .ref a_level, .ref a_at, .ref a_len, .ref a_nameAt, .ref a_nameLen, .ref a_num, .ref a_pool, .int i_pooled, .ref a_draft, .int i_drafted, .int i_pos, .int i_code, .ref a_open, .int i_opened, .int i_heldAt, .int i_heldLen, .ref a_word, .int i_letters, .int i_literalKind, .int i_bad, .int i_given, .long i_literal, .ref a_list, .ref a_next, .ref a_result, .int i_listed, .int i_found, .int i_last, .int i_results, .int i_full, .int i_working, .ref a_twin, .int i_seen, .int i_wanted, .int i_got, .ref a_came, .ref a_closer])), (a_size, .inl (cI, 10, .inl u))] t.heap ∧ va_K (dC, dI) vwCl [(cI, .int)] t ∧ va_D (va_A [(y, .inr (12, [.int lim, .int rm, .ref a_size, .ref a_kind, .ref a_level, .ref a_at, .ref a_len, .ref a_nameAt, .ref a_nameLen, .ref a_num, .ref a_pool, .int i_pooled, .ref a_draft, .int i_drafted, .int i_pos, .int i_code, .ref a_open, .int i_opened, .int i_heldAt, .int i_heldLen, .ref a_word, .int i_letters, .int i_literalKind, .int i_bad, .int i_given, .long i_literal, .ref a_list, .ref a_next, .ref a_result, .int i_listed, .int i_found, .int i_last, .int i_results, .int i_full, .int i_working, .ref a_twin, .int i_seen, .int i_wanted, .int i_got, .ref a_came, .ref a_closer])), (a_size, .inl (cI, 10, .inl sf))] sz) [(y, .inr (12, [.int lim, .int rm, .ref a_size, .ref a_kind, .ref a_level, .ref a_at, .ref a_len, .ref a_nameAt, .ref a_nameLen, .ref a_num, .ref a_pool, .int i_pooled, .ref a_draft, .int i_drafted, .int i_pos, .int i_code, .ref a_open, .int i_opened, .int i_heldAt, .int i_heldLen, .ref a_word, .int i_letters, .int i_literalKind, .int i_bad, .int i_given, .long i_literal, .ref a_list, .ref a_next, .ref a_result, .int i_listed, .int i_found, .int i_last, .int i_results, .int i_full, .int i_working, .ref a_twin, .int i_seen, .int i_wanted, .int i_got, .ref a_came, .ref a_closer])), (a_size, .inl (cI, 10, .inl u))]) (va_A [(y, .inr (12, [.int lim, .int rm, .ref a_size, .ref a_kind, .ref a_level, .ref a_at, .ref a_len, .ref a_nameAt, .ref a_nameLen, .ref a_num, .ref a_pool, .int i_pooled, .ref a_draft, .int i_drafted, .int i_pos, .int i_code, .ref a_open, .int i_opened, .int i_heldAt, .int i_heldLen, .ref a_word, .int i_letters, .int i_literalKind, .int i_bad, .int i_given, .long i_literal, .ref a_list, .ref a_next, .ref a_result, .int i_listed, .int i_found, .int i_last, .int i_results, .int i_full, .int i_working, .ref a_twin, .int i_seen, .int i_wanted, .int i_got, .ref a_came, .ref a_closer])), (a_size, .inl (cI, 10, .inl sf))] sz)) 0 0 (va_A [(y, .inr (12, [.int lim, .int rm, .ref a_size, .ref a_kind, .ref a_level, .ref a_at, .ref a_len, .ref a_nameAt, .ref a_nameLen, .ref a_num, .ref a_pool, .int i_pooled, .ref a_draft, .int i_drafted, .int i_pos, .int i_code, .ref a_open, .int i_opened, .int i_heldAt, .int i_heldLen, .ref a_word, .int i_letters, .int i_literalKind, .int i_bad, .int i_given, .long i_literal, .ref a_list, .ref a_next, .ref a_result, .int i_listed, .int i_found, .int i_last, .int i_results, .int i_full, .int i_working, .ref a_twin, .int i_seen, .int i_wanted, .int i_got, .ref a_came, .ref a_closer])), (a_size, .inl (cI, 10, .inl sf))] sz) := by
  refine Met.ofW (cc := c_MO_delete) (maxL := 2) (ret := (some .boolean)) (by decide) rfl ?_
  intro p e s m args below meth c s₁ B hml hv
  obtain ⟨rfl, hsz, hP, hK, hD0⟩ := hv
  have hx := B.exec
  have hb := B.bytes
  have hr := B.returns
  have hts := atoms_spec (ws := ws_MO_delete) B.pre
  have htb := fun w (h : w ∈ TBL) => hts w (List.mem_cons_of_mem _ h)
  have hown : s.vm.findClass R_MO = some m.cls := findClass_of_methodNamed B.named
  have hlocks := B.notSynchronized
  subst hsz
  have hD := hD0.self (sz := s.heap.size)
  generalize hAe : va_A [(y, .inr (12, [.int lim, .int rm, .ref a_size, .ref a_kind, .ref a_level, .ref a_at, .ref a_len, .ref a_nameAt, .ref a_nameLen, .ref a_num, .ref a_pool, .int i_pooled, .ref a_draft, .int i_drafted, .int i_pos, .int i_code, .ref a_open, .int i_opened, .int i_heldAt, .int i_heldLen, .ref a_word, .int i_letters, .int i_literalKind, .int i_bad, .int i_given, .long i_literal, .ref a_list, .ref a_next, .ref a_result, .int i_listed, .int i_found, .int i_last, .int i_results, .int i_full, .int i_working, .ref a_twin, .int i_seen, .int i_wanted, .int i_got, .ref a_came, .ref a_closer])), (a_size, .inl (cI, 10, .inl sf))] s.heap.size = A at hD ⊢
  have hA : ∀ q : Nat, s.heap.size ≤ q → A q := fun q h => by rw [← hAe]; exact Or.inr h
  have hS : va_S A s.heap s.heap [] := va_S.rf
  have hP : va_P (dC, dI) vwCl [(y, .inr (12, [.int lim, .int rm, .ref a_size, .ref a_kind, .ref a_level, .ref a_at, .ref a_len, .ref a_nameAt, .ref a_nameLen, .ref a_num, .ref a_pool, .int i_pooled, .ref a_draft, .int i_drafted, .int i_pos, .int i_code, .ref a_open, .int i_opened, .int i_heldAt, .int i_heldLen, .ref a_word, .int i_letters, .int i_literalKind, .int i_bad, .int i_given, .long i_literal, .ref a_list, .ref a_next, .ref a_result, .int i_listed, .int i_found, .int i_last, .int i_results, .int i_full, .int i_working, .ref a_twin, .int i_seen, .int i_wanted, .int i_got, .ref a_came, .ref a_closer])), (a_size, .inl (cI, 10, .inl sf))] s.heap := hP
  have hl := lv_entry ([.ref y, .int k]) (n := 2) (Nat.le_of_ble_eq_true rfl)
  rw [lg_entry_eq]
  generalize (lg_sl ([.ref y, .int k]) ++ List.replicate (2 - (lg_sl ([.ref y, .int k])).length) Slot.unset).toArray = ls at hl ⊢
  have hl : lv_has ls 2 [(0, .ref y), (1, .int k)] := hl
  refine lv_iload_n hx hb d_MO_delete_0 rfl (lv_at hl 1 rfl) ?_
  have hPc : va_P (dC, dI) vwCl [] _ := hP.sub (ws' := []) [] rfl
  have hKc := hK.sub (tys' := []) [] rfl
  refine vp_callSi (W.runS (As := [.int k]) (rest := []) ⟨hx, hb, hml, hown, htb⟩ (q_MO_isDocument l dC dI k ) (va_cwS 1 htb (g_S (fun _ h => h) m_1276 m_1274 m_1275 m_9) rfl rfl rfl (by decide +kernel) ⟨Nat.le_of_ble_eq_true rfl, Nat.le_of_ble_eq_true rfl⟩) ⟨fun a U g mk q => by obtain ⟨q0, qP, qK⟩ := q; exact ⟨q0, qP, va_K.moved (u := U) (U := U.calling g mk a) (Vm.Alike.refl U.vm) qK⟩, fun U hU hW => ⟨rfl, by rw [hU]; exact hPc, va_K.moved hW.alike hKc⟩⟩ rfl rfl hl.1 rfl (lv_room (Nat.le_of_ble_eq_true rfl)) d_MO_delete_1 ⟨Nat.le_of_ble_eq_true rfl, Nat.le_of_ble_eq_true rfl⟩) (fun r1 hw2 => ?_)
  have hw2 : (r1 = 0 ∧ (k < 0 ∨ 3 ≤ k)) ∨ (r1 = 1 ∧ ¬ (k < 0 ∨ 3 ≤ k)) := hw2
  rcases hw2 with ⟨rfl, hkk⟩ | ⟨rfl, hkk⟩
  · refine lv_if_eq (tgt := 16) hx hb d_MO_delete_4 rfl (fun _ => ?_) (fun h9 => absurd (rfl) h9)
    refine lv_iconst (v := 0) hx hb d_MO_delete_16 (by decide) ?_
    have hP9 := hP.sub (ws' := [(y, .inr (12, [.int lim, .int rm, .ref a_size, .ref a_kind, .ref a_level, .ref a_at, .ref a_len, .ref a_nameAt, .ref a_nameLen, .ref a_num, .ref a_pool, .int i_pooled, .ref a_draft, .int i_drafted, .int i_pos, .int i_code, .ref a_open, .int i_opened, .int i_heldAt, .int i_heldLen, .ref a_word, .int i_letters, .int i_literalKind, .int i_bad, .int i_given, .long i_literal, .ref a_list, .ref a_next, .ref a_result, .int i_listed, .int i_found, .int i_last, .int i_results, .int i_full, .int i_working, .ref a_twin, .int i_seen, .int i_wanted, .int i_got, .ref a_came, .ref a_closer])), (a_size, .inl (cI, 10, .inl sf))]) [0, 1] rfl
    have hD9 := hD.sub (ws' := [(y, .inr (12, [.int lim, .int rm, .ref a_size, .ref a_kind, .ref a_level, .ref a_at, .ref a_len, .ref a_nameAt, .ref a_nameLen, .ref a_num, .ref a_pool, .int i_pooled, .ref a_draft, .int i_drafted, .int i_pos, .int i_code, .ref a_open, .int i_opened, .int i_heldAt, .int i_heldLen, .ref a_word, .int i_letters, .int i_literalKind, .int i_bad, .int i_given, .long i_literal, .ref a_list, .ref a_next, .ref a_result, .int i_listed, .int i_found, .int i_last, .int i_results, .int i_full, .int i_working, .ref a_twin, .int i_seen, .int i_wanted, .int i_got, .ref a_came, .ref a_closer])), (a_size, .inl (cI, 10, .inl sf))]) [0, 1] (by decide) rfl
    have hK9 := hK.sub (tys' := [(cI, .int)]) [0] rfl
    refine W.widen (k := 0) (n := 0) (Nat.le_of_ble_eq_true rfl) (Nat.le_of_ble_eq_true rfl) ?_
    exact W.zret (v := 0) hx hb hr (by decide) (fun t ht hW => ⟨⟨0, sf, rfl, Or.inl ⟨rfl, Or.inl hkk, rfl⟩, ⟨by rw [ht]; exact hP9, va_K.moved hW.alike hK9, hD9⟩⟩, hS.F ht⟩) hS.2.2 d_MO_delete_17
  · have hk0 : ¬ k < 0 := fun h => hkk (Or.inl h)
    have hk3 : ¬ 3 ≤ k := fun h => hkk (Or.inr h)
    have hkn := i3 hk0 hk3
    have hs9 := hsz _ hkn.1
    refine lv_if_eq (tgt := 16) hx hb d_MO_delete_4 rfl (fun h9 => absurd h9 (by decide)) (fun _ => ?_)
    refine lv_aload_n hx hb d_MO_delete_7 rfl (lv_at hl 0 rfl) ?_
    refine va_get (D := (dC, dI)) (ci := 12) (v := .ref a_size) (C := R_MO) (T := T_MO) (N := 41) hx hb htb in_MO hown hK hP 0 rfl rfl 2 (by decide) (htb _ m_1141) (fun _ h9 => h9) rfl d_MO_delete_8 ?_
    refine lv_iload_n hx hb d_MO_delete_11 rfl (lv_at hl 1 rfl) ?_
    refine va_iald hx hb hK hP 1 0 rfl rfl (i3_in10 hk0 hk3) d_MO_delete_12 ?_
    refine W.eq (congrArg (fun z => F0 m 13 ls (.int z :: [])) (hs9.1 : (sf k.toNatClampNeg) = nI (nz3 k.toNatClampNeg))) ?_
    refine lv_if_ne (tgt := 18) hx hb d_MO_delete_13 rfl (fun h5 => ?_) (fun h5 => ?_)
    · have h5 : ¬ nz3 k.toNatClampNeg = 0 := fun h => h5 (by rw [h]; rfl)
      refine lv_aload_n hx hb d_MO_delete_18 rfl (lv_at hl 0 rfl) ?_
      refine va_get (D := (dC, dI)) (ci := 12) (v := .ref a_size) (C := R_MO) (T := T_MO) (N := 41) hx hb htb in_MO hown hK hP 0 rfl rfl 2 (by decide) (htb _ m_1141) (fun _ h9 => h9) rfl d_MO_delete_19 ?_
      refine lv_iload_n hx hb d_MO_delete_22 rfl (lv_at hl 1 rfl) ?_
      refine lv_iconst (v := 0) hx hb d_MO_delete_23 (by decide) ?_
      refine va_iast hx hb hK hP hD hS 1 0 rfl rfl (i3_in10 hk0 hk3) d_MO_delete_24 (fun H locs hP hD hS => ?_)
      have hP : va_P (dC, dI) vwCl [(y, .inr (12, [.int lim, .int rm, .ref a_size, .ref a_kind, .ref a_level, .ref a_at, .ref a_len, .ref a_nameAt, .ref a_nameLen, .ref a_num, .ref a_pool, .int i_pooled, .ref a_draft, .int i_drafted, .int i_pos, .int i_code, .ref a_open, .int i_opened, .int i_heldAt, .int i_heldLen, .ref a_word, .int i_letters, .int i_literalKind, .int i_bad, .int i_given, .long i_literal, .ref a_list, .ref a_next, .ref a_result, .int i_listed, .int i_found, .int i_last, .int i_results, .int i_full, .int i_working, .ref a_twin, .int i_seen, .int i_wanted, .int i_got, .ref a_came, .ref a_closer])), (a_size, .inl (cI, 10, .inl (upd sf k.toNatClampNeg 0)))] H := hP
      have hD : va_D A [(y, .inr (12, [.int lim, .int rm, .ref a_size, .ref a_kind, .ref a_level, .ref a_at, .ref a_len, .ref a_nameAt, .ref a_nameLen, .ref a_num, .ref a_pool, .int i_pooled, .ref a_draft, .int i_drafted, .int i_pos, .int i_code, .ref a_open, .int i_opened, .int i_heldAt, .int i_heldLen, .ref a_word, .int i_letters, .int i_literalKind, .int i_bad, .int i_given, .long i_literal, .ref a_list, .ref a_next, .ref a_result, .int i_listed, .int i_found, .int i_last, .int i_results, .int i_full, .int i_working, .ref a_twin, .int i_seen, .int i_wanted, .int i_got, .ref a_came, .ref a_closer])), (a_size, .inl (cI, 10, .inl (upd sf k.toNatClampNeg 0)))] := hD
      refine lv_iconst (v := 1) hx hb d_MO_delete_25 (by decide) ?_
      have hP9 := hP.sub (ws' := [(y, .inr (12, [.int lim, .int rm, .ref a_size, .ref a_kind, .ref a_level, .ref a_at, .ref a_len, .ref a_nameAt, .ref a_nameLen, .ref a_num, .ref a_pool, .int i_pooled, .ref a_draft, .int i_drafted, .int i_pos, .int i_code, .ref a_open, .int i_opened, .int i_heldAt, .int i_heldLen, .ref a_word, .int i_letters, .int i_literalKind, .int i_bad, .int i_given, .long i_literal, .ref a_list, .ref a_next, .ref a_result, .int i_listed, .int i_found, .int i_last, .int i_results, .int i_full, .int i_working, .ref a_twin, .int i_seen, .int i_wanted, .int i_got, .ref a_came, .ref a_closer])), (a_size, .inl (cI, 10, .inl (upd sf k.toNatClampNeg 0)))]) [0, 1] rfl
      have hD9 := hD.sub (ws' := [(y, .inr (12, [.int lim, .int rm, .ref a_size, .ref a_kind, .ref a_level, .ref a_at, .ref a_len, .ref a_nameAt, .ref a_nameLen, .ref a_num, .ref a_pool, .int i_pooled, .ref a_draft, .int i_drafted, .int i_pos, .int i_code, .ref a_open, .int i_opened, .int i_heldAt, .int i_heldLen, .ref a_word, .int i_letters, .int i_literalKind, .int i_bad, .int i_given, .long i_literal, .ref a_list, .ref a_next, .ref a_result, .int i_listed, .int i_found, .int i_last, .int i_results, .int i_full, .int i_working, .ref a_twin, .int i_seen, .int i_wanted, .int i_got, .ref a_came, .ref a_closer])), (a_size, .inl (cI, 10, .inl (upd sf k.toNatClampNeg 0)))]) [0, 1] (by decide) rfl
      have hK9 := hK.sub (tys' := [(cI, .int)]) [0] rfl
      refine W.widen (k := 0) (n := 0) (Nat.le_of_ble_eq_true rfl) (Nat.le_of_ble_eq_true rfl) ?_
      exact W.zret (v := 1) hx hb hr (by decide) (fun t ht hW => ⟨⟨1, (upd sf k.toNatClampNeg 0), rfl, Or.inr ⟨rfl, hkk, h5, rfl⟩, ⟨by rw [ht]; exact hP9, va_K.moved hW.alike hK9, hD9⟩⟩, hS.F ht⟩) hS.2.2 d_MO_delete_26
    · have h5 : nz3 k.toNatClampNeg = 0 := (nI_eq (by omega) (by decide)).mp h5
      refine lv_iconst (v := 0) hx hb d_MO_delete_16 (by decide) ?_
      have hP9 := hP.sub (ws' := [(y, .inr (12, [.int lim, .int rm, .ref a_size, .ref a_kind, .ref a_level, .ref a_at, .ref a_len, .ref a_nameAt, .ref a_nameLen, .ref a_num, .ref a_pool, .int i_pooled, .ref a_draft, .int i_drafted, .int i_pos, .int i_code, .ref a_open, .int i_opened, .int i_heldAt, .int i_heldLen, .ref a_word, .int i_letters, .int i_literalKind, .int i_bad, .int i_given, .long i_literal, .ref a_list, .ref a_next, .ref a_result, .int i_listed, .int i_found, .int i_last, .int i_results, .int i_full, .int i_working, .ref a_twin, .int i_seen, .int i_wanted, .int i_got, .ref a_came, .ref a_closer])), (a_size, .inl (cI, 10, .inl sf))]) [0, 1] rfl
      have hD9 := hD.sub (ws' := [(y, .inr (12, [.int lim, .int rm, .ref a_size, .ref a_kind, .ref a_level, .ref a_at, .ref a_len, .ref a_nameAt, .ref a_nameLen, .ref a_num, .ref a_pool, .int i_pooled, .ref a_draft, .int i_drafted, .int i_pos, .int i_code, .ref a_open, .int i_opened, .int i_heldAt, .int i_heldLen, .ref a_word, .int i_letters, .int i_literalKind, .int i_bad, .int i_given, .long i_literal, .ref a_list, .ref a_next, .ref a_result, .int i_listed, .int i_found, .int i_last, .int i_results, .int i_full, .int i_working, .ref a_twin, .int i_seen, .int i_wanted, .int i_got, .ref a_came, .ref a_closer])), (a_size, .inl (cI, 10, .inl sf))]) [0, 1] (by decide) rfl
      have hK9 := hK.sub (tys' := [(cI, .int)]) [0] rfl
      refine W.widen (k := 0) (n := 0) (Nat.le_of_ble_eq_true rfl) (Nat.le_of_ble_eq_true rfl) ?_
      exact W.zret (v := 0) hx hb hr (by decide) (fun t ht hW => ⟨⟨0, sf, rfl, Or.inl ⟨rfl, Or.inr h5, rfl⟩, ⟨by rw [ht]; exact hP9, va_K.moved hW.alike hK9, hD9⟩⟩, hS.F ht⟩) hS.2.2 d_MO_delete_17
set_option maxHeartbeats 1000000 in
set_option maxRecDepth 100000 in
/-- results() -/
theorem q_MO_results (l : Launch) (dC : Nat → ClassId) (dI : Nat → Nat → Nat) (y : Nat) (lim : Int32) (rm : Int32) (i_literal : Int64) (a_size : Nat) (a_kind : Nat) (a_level : Nat) (a_at : Nat) (a_len : Nat) (a_nameAt : Nat) (a_nameLen : Nat) (a_num : Nat) (a_pool : Nat) (a_draft : Nat) (a_open : Nat) (a_word : Nat) (a_list : Nat) (a_next : Nat) (a_result : Nat) (a_twin : Nat) (a_came : Nat) (a_closer : Nat) (i_pooled : Int32) (i_drafted : Int32) (i_pos : Int32) (i_code : Int32) (i_opened : Int32) (i_heldAt : Int32) (i_heldLen : Int32) (i_letters : Int32) (i_literalKind : Int32) (i_bad : Int32) (i_given : Int32) (i_listed : Int32) (i_found : Int32) (i_last : Int32) (i_results : Int32) (i_full : Int32) (i_working : Int32) (i_seen : Int32) (i_wanted : Int32) (i_got : Int32) : Met l y_MO_results ws_MO_results ({ frames := 0, cells := 0, slots := 0, locals := 0 }) (va_Pc [.ref y] (fun U => va_P (dC, dI) vwCl [(y, .inr (12, [.int lim, .int rm, .ref a_size, .ref a_kind, .ref a_level, .ref a_at, .ref a_len, .ref a_nameAt, .ref a_nameLen, .ref a_num, .ref a_pool, .int i_pooled, .ref a_draft, .int i_drafted, .int i_pos, .int i_code, .ref a_open, .int i_opened, .int i_heldAt, .int i_heldLen, .ref a_word, .int i_letters, .int i_literalKind, .int i_bad, .int i_given, .long i_literal, .ref a_list, .ref a_next, .ref a_result, .int i_listed, .int i_found, .int i_last, .int i_results, .int i_full, .int i_working, .ref a_twin, .int i_seen, .int i_wanted, .int i_got, .ref a_came, .ref a_closer]))] U.heap ∧ va_K (dC, dI) vwCl [] U)) (vp_Si (fun (r : Int32) => r = i_results)) 0 0 (fun _ => False) := by
  refine Met.ofW (cc := c_MO_results) (maxL := 1) (ret := (some .int)) (by decide) rfl ?_
  intro p e s m args below meth c s₁ B hml hv
  obtain ⟨rfl, hP, hK⟩ := hv
  have hx := B.exec
  have hb := B.bytes
  have hr := B.returns
  have hts := atoms_spec (ws := ws_MO_results) B.pre
  have htb := fun w (h : w ∈ TBL) => hts w (List.mem_cons_of_mem _ h)
  have hown : s.vm.findClass R_MO = some m.cls := findClass_of_methodNamed B.named
  have hlocks := B.notSynchronized
  have hl := lv_entry ([.ref y]) (n := 1) (Nat.le_of_ble_eq_true rfl)
  rw [lg_entry_eq]
  generalize (lg_sl ([.ref y]) ++ List.replicate (1 - (lg_sl ([.ref y])).length) Slot.unset).toArray = ls at hl ⊢
  have hl : lv_has ls 1 [(0, .ref y)] := hl
  refine lv_aload_n hx hb d_MO_results_0 rfl (lv_at hl 0 rfl) ?_
  refine va_get (D := (dC, dI)) (ci := 12) (v := .int i_results) (C := R_MO) (T := T_MO) (N := 41) hx hb htb in_MO hown hK hP 0 rfl rfl 32 (by decide) (htb _ m_1171) (fun _ h9 => h9) rfl d_MO_results_1 ?_
  exact W.iret (v := i_results) hx hb hr (fun t ht hW => ⟨i_results, rfl, rfl, ht⟩) (fun q h => absurd h List.not_mem_nil) d_MO_results_4
set_option maxHeartbeats 1000000 in
set_option maxRecDepth 100000 in
/-- draft() -/
theorem q_MO_draft (l : Launch) (dC : Nat → ClassId) (dI : Nat → Nat → Nat) (y : Nat) (lim : Int32) (rm : Int32) (i_literal : Int64) (a_size : Nat) (a_kind : Nat) (a_level : Nat) (a_at : Nat) (a_len : Nat) (a_nameAt : Nat) (a_nameLen : Nat) (a_num : Nat) (a_pool : Nat) (a_draft : Nat) (a_open : Nat) (a_word : Nat) (a_list : Nat) (a_next : Nat) (a_result : Nat) (a_twin : Nat) (a_came : Nat) (a_closer : Nat) (i_pooled : Int32) (i_drafted : Int32) (i_pos : Int32) (i_code : Int32) (i_opened : Int32) (i_heldAt : Int32) (i_heldLen : Int32) (i_letters : Int32) (i_literalKind : Int32) (i_bad : Int32) (i_given : Int32) (i_listed : Int32) (i_found : Int32) (i_last : Int32) (i_results : Int32) (i_full : Int32) (i_working : Int32) (i_seen : Int32) (i_wanted : Int32) (i_got : Int32) : Met l y_MO_draft ws_MO_draft ({ frames := 0, cells := 0, slots := 0, locals := 0 }) (va_Pc [.ref y] (fun U => va_P (dC, dI) vwCl [(y, .inr (12, [.int lim, .int rm, .ref a_size, .ref a_kind, .ref a_level, .ref a_at, .ref a_len, .ref a_nameAt, .ref a_nameLen, .ref a_num, .ref a_pool, .int i_pooled, .ref a_draft, .int i_drafted, .int i_pos, .int i_code, .ref a_open, .int i_opened, .int i_heldAt, .int i_heldLen, .ref a_word, .int i_letters, .int i_literalKind, .int i_bad, .int i_given, .long i_literal, .ref a_list, .ref a_next, .ref a_result, .int i_listed, .int i_found, .int i_last, .int i_results, .int i_full, .int i_working, .ref a_twin, .int i_seen, .int i_wanted, .int i_got, .ref a_came, .ref a_closer]))] U.heap ∧ va_K (dC, dI) vwCl [] U)) (vp_Si (fun (r : Int32) => r = i_drafted)) 0 0 (fun _ => False) := by
  refine Met.ofW (cc := c_MO_draft) (maxL := 1) (ret := (some .int)) (by decide) rfl ?_
  intro p e s m args below meth c s₁ B hml hv
  obtain ⟨rfl, hP, hK⟩ := hv
  have hx := B.exec
  have hb := B.bytes
  have hr := B.returns
  have hts := atoms_spec (ws := ws_MO_draft) B.pre
  have htb := fun w (h : w ∈ TBL) => hts w (List.mem_cons_of_mem _ h)
  have hown : s.vm.findClass R_MO = some m.cls := findClass_of_methodNamed B.named
  have hlocks := B.notSynchronized
  have hl := lv_entry ([.ref y]) (n := 1) (Nat.le_of_ble_eq_true rfl)
  rw [lg_entry_eq]
  generalize (lg_sl ([.ref y]) ++ List.replicate (1 - (lg_sl ([.ref y])).length) Slot.unset).toArray = ls at hl ⊢
  have hl : lv_has ls 1 [(0, .ref y)] := hl
  refine lv_aload_n hx hb d_MO_draft_0 rfl (lv_at hl 0 rfl) ?_
  refine va_get (D := (dC, dI)) (ci := 12) (v := .int i_drafted) (C := R_MO) (T := T_MO) (N := 41) hx hb htb in_MO hown hK hP 0 rfl rfl 13 (by decide) (htb _ m_1152) (fun _ h9 => h9) rfl d_MO_draft_1 ?_
  exact W.iret (v := i_drafted) hx hb hr (fun t ht hW => ⟨i_drafted, rfl, rfl, ht⟩) (fun q h => absurd h List.not_mem_nil) d_MO_draft_4
