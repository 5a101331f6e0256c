set_option maxHeartbeats 1000000 in
set_option maxRecDepth 100000 in
/-- length() -/
theorem q_AB_length (l : Launch) (dC : Nat → ClassId) (dI : Nat → Nat → Nat) (x : Nat) (bv : Nat) (ml : Int32) (n : Nat) : Met l y_AB_length ws_AB_length ({ frames := 0, cells := 0, slots := 0, locals := 0 }) (va_Pc [.ref x] (fun U => va_P (dC, dI) vwCl [(x, .inr (13, [.ref bv, .int 0, .int ml, .int (nI n)]))] U.heap ∧ va_K (dC, dI) vwCl [] U)) (vp_Si (fun (r : Int32) => r = nI n)) 0 0 (fun _ => False) := by
  refine Met.ofW (cc := c_AB_length) (maxL := 1) (ret := (some .int)) (by decide) rfl ?_
  intro p e s m args below meth c s₁ B hml hv
  obtain ⟨rfl, hP, hK⟩ := hv
  have hx := B.exec
  have hb := B.bytes
  have hr := B.returns
  have hts := atoms_spec (ws := ws_AB_length) B.pre
  have htb := fun w (h : w ∈ TBL) => hts w (List.mem_cons_of_mem _ h)
  have hown : s.vm.findClass R_AB = some m.cls := findClass_of_methodNamed B.named
  have hlocks := B.notSynchronized
  have hl := lv_entry ([.ref x]) (n := 1) (Nat.le_of_ble_eq_true rfl)
  rw [lg_entry_eq]
  generalize (lg_sl ([.ref x]) ++ List.replicate (1 - (lg_sl ([.ref x])).length) Slot.unset).toArray = ls at hl ⊢
  have hl : lv_has ls 1 [(0, .ref x)] := hl
  refine lv_aload_n hx hb d_AB_length_0 rfl (lv_at hl 0 rfl) ?_
  refine va_get (D := (dC, dI)) (ci := 13) (v := .int (nI n)) (C := R_SB) (T := T_SB) (N := 4) hx hb htb in_SB hown hK hP 0 rfl rfl 3 (by decide) (htb _ m_59) (fun _ h9 => h9) rfl d_AB_length_1 ?_
  exact W.iret (v := (nI n)) hx hb hr (fun t ht hW => ⟨(nI n), rfl, rfl, ht⟩) (fun q h => absurd h List.not_mem_nil) d_AB_length_4
set_option maxHeartbeats 1000000 in
set_option maxRecDepth 100000 in
/-- StringBuilder.length() -/
theorem q_SB_length (l : Launch) (dC : Nat → ClassId) (dI : Nat → Nat → Nat) (x : Nat) (bv : Nat) (ml : Int32) (n : Nat) : Met l y_SB_length ws_SB_length ({ frames := 1, cells := 0, slots := 0, locals := 20 }) (va_Pc [.ref x] (fun U => va_P (dC, dI) vwCl [(x, .inr (13, [.ref bv, .int 0, .int ml, .int (nI n)]))] U.heap ∧ va_K (dC, dI) vwCl [] U)) (vp_Si (fun (r : Int32) => r = nI n)) 0 0 (fun _ => False) := by
  refine Met.ofW (cc := c_SB_length) (maxL := 1) (ret := (some .int)) (by decide) rfl ?_
  intro p e s m args below meth c s₁ B hml hv
  obtain ⟨rfl, hP, hK⟩ := hv
  have hx := B.exec
  have hb := B.bytes
  have hr := B.returns
  have hts := atoms_spec (ws := ws_SB_length) B.pre
  have htb := fun w (h : w ∈ TBL) => hts w (List.mem_cons_of_mem _ h)
  have hown : s.vm.findClass R_SB = some m.cls := findClass_of_methodNamed B.named
  have hlocks := B.notSynchronized
  have hl := lv_entry ([.ref x]) (n := 1) (Nat.le_of_ble_eq_true rfl)
  rw [lg_entry_eq]
  generalize (lg_sl ([.ref x]) ++ List.replicate (1 - (lg_sl ([.ref x])).length) Slot.unset).toArray = ls at hl ⊢
  have hl : lv_has ls 1 [(0, .ref x)] := hl
  refine lv_aload_n hx hb d_SB_length_0 rfl (lv_at hl 0 rfl) ?_
  have hPc : va_P (dC, dI) vwCl [(x, .inr (13, [.ref bv, .int 0, .int ml, .int (nI n)]))] _ := hP.sub (ws' := [(x, .inr (13, [.ref bv, .int 0, .int ml, .int (nI n)]))]) [0] rfl
  have hKc := hK.sub (tys' := []) [] rfl
  refine vp_callSi (va_Run.run (va_runSU (As := []) (rest := []) (hK.1 13 _ rfl).2 ⟨hx, hb, hml, hown, htb⟩ (q_AB_length l dC dI x bv ml n ) (va_cwSU 0 htb (g_SU (fun _ h => h) m_278 m_277 m_273 m_68 m_272 m_2) rfl rfl rfl (by decide +kernel) ⟨Nat.le_of_ble_eq_true rfl, Nat.le_of_ble_eq_true rfl⟩) ⟨fun a U g mk q => by obtain ⟨q0, qP, qK⟩ := q; exact ⟨q0, qP, va_K.moved (u := U) (U := U.calling g mk a) (Vm.Alike.refl U.vm) qK⟩, va_recv hKc hPc (ci := 13) rfl (q0 := 0) rfl, fun U hU hW => ⟨rfl, by rw [hU]; exact hPc, va_K.moved hW.alike hKc⟩⟩ rfl rfl hl.1 rfl (lv_room (Nat.le_of_ble_eq_true rfl)) d_SB_length_1 ⟨Nat.le_of_ble_eq_true rfl, Nat.le_of_ble_eq_true rfl⟩)) (fun r1 hw2 => ?_)
  have hw2 : r1 = nI n := hw2
  exact W.iret (v := r1) hx hb hr (fun t ht hW => ⟨r1, rfl, hw2, ht⟩) (fun q h => absurd h List.not_mem_nil) d_SB_length_4
set_option maxHeartbeats 1000000 in
set_option maxRecDepth 100000 in
/-- setLength(0) -/
theorem k_AB_setLength0 (l : Launch) (dC : Nat → ClassId) (dI : Nat → Nat → Nat) (sz : Nat) (x : Nat) (bv : Nat) (ml : Int32) (n : Nat) (cB : ClassId) (f : Nat → Int32) (cap : Nat) (hn : n ≤ cap) (hc : cap ≤ 286) : Met l y_AB_setLength ws_AB_setLength ({ frames := 1, cells := 0, slots := 0, locals := 22 }) (va_Pc [.ref x, .int 0] (fun U => U.heap.size = sz ∧ va_P (dC, dI) vwCl [(x, .inr (13, [.ref bv, .int 0, .int ml, .int (nI n)])), (bv, .inl (cB, cap, .inl f))] U.heap ∧ va_K (dC, dI) vwCl [(cB, .byte)] U ∧ va_D (fun _ => True) [(x, .inr (13, [.ref bv, .int 0, .int ml, .int (nI n)])), (bv, .inl (cB, cap, .inl f))])) (va_Qv (fun (u : Int32) => True) (fun u t => va_P (dC, dI) vwCl [(x, .inr (13, [.ref bv, .int 0, .int u, .int 0])), (bv, .inl (cB, cap, .inl f))] t.heap ∧ va_K (dC, dI) vwCl [(cB, .byte)] t ∧ va_D (va_A [(x, .inr (13, [.ref bv, .int 0, .int ml, .int (nI n)])), (bv, .inl (cB, cap, .inl f))] sz) [(x, .inr (13, [.ref bv, .int 0, .int u, .int 0])), (bv, .inl (cB, cap, .inl f))]) (va_A [(x, .inr (13, [.ref bv, .int 0, .int ml, .int (nI n)])), (bv, .inl (cB, cap, .inl f))] sz)) 0 0 (va_A [(x, .inr (13, [.ref bv, .int 0, .int ml, .int (nI n)])), (bv, .inl (cB, cap, .inl f))] sz) := by
  refine Met.ofW (cc := c_AB_setLength) (maxL := 2) (ret := none) (by decide) rfl ?_
  intro p e s m args below meth c s₁ B hml hv
  obtain ⟨rfl, hsz, hP, hK, hD0⟩ := hv
  have hx := B.exec
  have hb := B.bytes
  have hr := B.returns
  have hts := atoms_spec (ws := ws_AB_setLength) B.pre
  have htb := fun w (h : w ∈ TBL) => hts w (List.mem_cons_of_mem _ h)
  have hown : s.vm.findClass R_AB = some m.cls := findClass_of_methodNamed B.named
  have hlocks := B.notSynchronized
  subst hsz
  have hD := hD0.self (sz := s.heap.size)
  generalize hAe : va_A [(x, .inr (13, [.ref bv, .int 0, .int ml, .int (nI n)])), (bv, .inl (cB, cap, .inl f))] s.heap.size = A at hD ⊢
  have hA : ∀ q : Nat, s.heap.size ≤ q → A q := fun q h => by rw [← hAe]; exact Or.inr h
  have hS : va_S A s.heap s.heap [] := va_S.rf
  have hP : va_P (dC, dI) vwCl [(x, .inr (13, [.ref bv, .int 0, .int ml, .int (nI n)])), (bv, .inl (cB, cap, .inl f))] s.heap := hP
  have hl := lv_entry ([.ref x, .int 0]) (n := 2) (Nat.le_of_ble_eq_true rfl)
  rw [lg_entry_eq]
  generalize (lg_sl ([.ref x, .int 0]) ++ List.replicate (2 - (lg_sl ([.ref x, .int 0])).length) Slot.unset).toArray = ls at hl ⊢
  have hl : lv_has ls 2 [(0, .ref x), (1, .int 0)] := hl
  refine lv_iload_n hx hb d_AB_setLength_0 rfl (lv_at hl 1 rfl) ?_
  refine lv_if_ge (tgt := 13) hx hb d_AB_setLength_1 rfl (fun _ => ?_) (fun h9 => absurd (by decide) h9)
  refine lv_aload_n hx hb d_AB_setLength_13 rfl (lv_at hl 0 rfl) ?_
  refine lv_iload_n hx hb d_AB_setLength_14 rfl (lv_at hl 1 rfl) ?_
  have hPc : va_P (dC, dI) vwCl [(x, .inr (13, [.ref bv, .int 0, .int ml, .int (nI n)])), (bv, .inl (cB, cap, .inl f))] _ := hP.sub (ws' := [(x, .inr (13, [.ref bv, .int 0, .int ml, .int (nI n)])), (bv, .inl (cB, cap, .inl f))]) [0, 1] rfl
  have hKc := hK.sub (tys' := [(cB, .byte)]) [0] rfl
  refine va_csv (va_Run.run (va_runU (As := [.int (nI 0)]) (rest := []) ⟨hx, hb, hml, hown, htb⟩ (q_AB_fit l dC dI x bv ml n cB f cap 0 (by omega) hc) (va_cwU 1 htb (g_U (fun _ h => h) m_203 m_200 m_1600 m_1713 m_202 m_2) rfl rfl rfl rfl (by decide +kernel) ⟨Nat.le_of_ble_eq_true rfl, Nat.le_of_ble_eq_true rfl⟩) ⟨fun a U g mk q => by obtain ⟨q0, qP, qK⟩ := q; exact ⟨q0, qP, va_K.moved (u := U) (U := U.calling g mk a) (Vm.Alike.refl U.vm) qK⟩, va_recv hKc hPc (ci := 13) rfl (q0 := 0) rfl, fun U hU hW => ⟨rfl, by rw [hU]; exact hPc, va_K.moved hW.alike hKc⟩⟩ rfl rfl hl.1 rfl (lv_room (Nat.le_of_ble_eq_true rfl)) d_AB_setLength_15 ⟨Nat.le_of_ble_eq_true rfl, Nat.le_of_ble_eq_true rfl⟩)) (fun hw2 => ?_)
  have hw2 : True := hw2
  refine lv_aload_n hx hb d_AB_setLength_18 rfl (lv_at hl 0 rfl) ?_
  refine va_get (D := (dC, dI)) (ci := 13) (v := .int (nI n)) (C := R_SB) (T := T_SB) (N := 4) hx hb htb in_SB hown hK hP 0 rfl rfl 3 (by decide) (htb _ m_59) (fun _ h9 => h9) rfl d_AB_setLength_19 ?_
  refine lv_iload_n hx hb d_AB_setLength_22 rfl (lv_at hl 1 rfl) ?_
  refine lv_icmp_ge (tgt := 63) hx hb d_AB_setLength_23 rfl (fun _ => ?_) (fun h9 => absurd (nI_pos' (by omega)) h9)
  refine lv_aload_n hx hb d_AB_setLength_63 rfl (lv_at hl 0 rfl) ?_
  refine va_get (D := (dC, dI)) (ci := 13) (v := .int (nI n)) (C := R_SB) (T := T_SB) (N := 4) hx hb htb in_SB hown hK hP 0 rfl rfl 3 (by decide) (htb _ m_59) (fun _ h9 => h9) rfl d_AB_setLength_64 ?_
  refine lv_iload_n hx hb d_AB_setLength_67 rfl (lv_at hl 1 rfl) ?_
  refine lv_icmp_le (tgt := 76) hx hb d_AB_setLength_68 rfl (fun h1 => ?_) (fun h1 => ?_)
  · refine lv_aload_n hx hb d_AB_setLength_76 rfl (lv_at hl 0 rfl) ?_
    refine lv_iload_n hx hb d_AB_setLength_77 rfl (lv_at hl 1 rfl) ?_
    refine va_put (D := (dC, dI)) (ci := 13) (v := .int 0) (ty := .int) (C := R_SB) (T := T_SB) (N := 4) hx hb htb in_SB ty_SB ty_SB_ok nm_SB hown hK hP hD hS 0 rfl rfl 3 (by decide) (htb _ m_59) (fun _ h9 => h9) rfl (by decide +kernel) rfl rfl (Nat.le_of_ble_eq_true rfl) d_AB_setLength_78 (fun H locs hP hD hS => ?_)
    have hP : va_P (dC, dI) vwCl [(x, .inr (13, [.ref bv, .int 0, .int ml, .int 0])), (bv, .inl (cB, cap, .inl f))] H := hP
    have hD : va_D A [(x, .inr (13, [.ref bv, .int 0, .int ml, .int 0])), (bv, .inl (cB, cap, .inl f))] := hD
    have hP9 := hP.sub (ws' := [(x, .inr (13, [.ref bv, .int 0, .int ml, .int 0])), (bv, .inl (cB, cap, .inl f))]) [0, 1] rfl
    have hD9 := hD.sub (ws' := [(x, .inr (13, [.ref bv, .int 0, .int ml, .int 0])), (bv, .inl (cB, cap, .inl f))]) [0, 1] (by decide) rfl
    have hK9 := hK.sub (tys' := [(cB, .byte)]) [0] rfl
    refine W.widen (k := 0) (n := 0) (Nat.le_of_ble_eq_true rfl) (Nat.le_of_ble_eq_true rfl) ?_
    exact W.vret hx hb hr (fun t ht hW => ⟨⟨ml, rfl, trivial, ⟨by rw [ht]; exact hP9, va_K.moved hW.alike hK9, hD9⟩⟩, hS.F ht⟩) hS.2.2 d_AB_setLength_81
  · refine lv_aload_n hx hb d_AB_setLength_71 rfl (lv_at hl 0 rfl) ?_
    refine lv_iconst (v := 1) hx hb d_AB_setLength_72 (by decide) ?_
    refine va_put (D := (dC, dI)) (ci := 13) (v := .int 1) (ty := .boolean) (C := R_SB) (T := T_SB) (N := 4) hx hb htb in_SB ty_SB ty_SB_ok nm_SB hown hK hP hD hS 0 rfl rfl 2 (by decide) (htb _ m_57) (fun _ h9 => h9) rfl (by decide +kernel) rfl rfl (Nat.le_of_ble_eq_true rfl) d_AB_setLength_73 (fun H locs hP hD hS => ?_)
    have hP : va_P (dC, dI) vwCl [(x, .inr (13, [.ref bv, .int 0, .int 1, .int (nI n)])), (bv, .inl (cB, cap, .inl f))] H := hP
    have hD : va_D A [(x, .inr (13, [.ref bv, .int 0, .int 1, .int (nI n)])), (bv, .inl (cB, cap, .inl f))] := hD
    refine lv_aload_n hx hb d_AB_setLength_76 rfl (lv_at hl 0 rfl) ?_
    refine lv_iload_n hx hb d_AB_setLength_77 rfl (lv_at hl 1 rfl) ?_
    refine va_put (D := (dC, dI)) (ci := 13) (v := .int 0) (ty := .int) (C := R_SB) (T := T_SB) (N := 4) hx hb htb in_SB ty_SB ty_SB_ok nm_SB hown hK hP hD hS 0 rfl rfl 3 (by decide) (htb _ m_59) (fun _ h9 => h9) rfl (by decide +kernel) rfl rfl (Nat.le_of_ble_eq_true rfl) d_AB_setLength_78 (fun H locs hP hD hS => ?_)
    have hP : va_P (dC, dI) vwCl [(x, .inr (13, [.ref bv, .int 0, .int 1, .int 0])), (bv, .inl (cB, cap, .inl f))] H := hP
    have hD : va_D A [(x, .inr (13, [.ref bv, .int 0, .int 1, .int 0])), (bv, .inl (cB, cap, .inl f))] := hD
    have hP9 := hP.sub (ws' := [(x, .inr (13, [.ref bv, .int 0, .int 1, .int 0])), (bv, .inl (cB, cap, .inl f))]) [0, 1] rfl
    have hD9 := hD.sub (ws' := [(x, .inr (13, [.ref bv, .int 0, .int 1, .int 0])), (bv, .inl (cB, cap, .inl f))]) [0, 1] (by decide) rfl
    have hK9 := hK.sub (tys' := [(cB, .byte)]) [0] rfl
    refine W.widen (k := 0) (n := 0) (Nat.le_of_ble_eq_true rfl) (Nat.le_of_ble_eq_true rfl) ?_
    exact W.vret hx hb hr (fun t ht hW => ⟨⟨1, rfl, trivial, ⟨by rw [ht]; exact hP9, va_K.moved hW.alike hK9, hD9⟩⟩, hS.F ht⟩) hS.2.2 d_AB_setLength_81
set_option maxHeartbeats 1000000 in
set_option maxRecDepth 100000 in
/-- StringBuilder.setLength(0) -/
theorem k_SB_setLength0 (l : Launch) (dC : Nat → ClassId) (dI : Nat → Nat → Nat) (sz : Nat) (x : Nat) (bv : Nat) (ml : Int32) (n : Nat) (cB : ClassId) (f : Nat → Int32) (cap : Nat) (hn : n ≤ cap) (hc : cap ≤ 286) : Met l y_SB_setLength ws_SB_setLength ({ frames := 2, cells := 0, slots := 0, locals := 43 }) (va_Pc [.ref x, .int 0] (fun U => U.heap.size = sz ∧ va_P (dC, dI) vwCl [(x, .inr (13, [.ref bv, .int 0, .int ml, .int (nI n)])), (bv, .inl (cB, cap, .inl f))] U.heap ∧ va_K (dC, dI) vwCl [(cB, .byte)] U ∧ va_D (fun _ => True) [(x, .inr (13, [.ref bv, .int 0, .int ml, .int (nI n)])), (bv, .inl (cB, cap, .inl f))])) (va_Qv (fun (u : Int32) => True) (fun u t => va_P (dC, dI) vwCl [(x, .inr (13, [.ref bv, .int 0, .int u, .int 0])), (bv, .inl (cB, cap, .inl f))] t.heap ∧ va_K (dC, dI) vwCl [(cB, .byte)] t ∧ va_D (va_A [(x, .inr (13, [.ref bv, .int 0, .int ml, .int (nI n)])), (bv, .inl (cB, cap, .inl f))] sz) [(x, .inr (13, [.ref bv, .int 0, .int u, .int 0])), (bv, .inl (cB, cap, .inl f))]) (va_A [(x, .inr (13, [.ref bv, .int 0, .int ml, .int (nI n)])), (bv, .inl (cB, cap, .inl f))] sz)) 0 0 (va_A [(x, .inr (13, [.ref bv, .int 0, .int ml, .int (nI n)])), (bv, .inl (cB, cap, .inl f))] sz) := by
  refine Met.ofW (cc := c_SB_setLength) (maxL := 2) (ret := none) (by decide) rfl ?_
  intro p e s m args below meth c s₁ B hml hv
  obtain ⟨rfl, hsz, hP, hK, hD0⟩ := hv
  have hx := B.exec
  have hb := B.bytes
  have hr := B.returns
  have hts := atoms_spec (ws := ws_SB_setLength) B.pre
  have htb := fun w (h : w ∈ TBL) => hts w (List.mem_cons_of_mem _ h)
  have hown : s.vm.findClass R_SB = some m.cls := findClass_of_methodNamed B.named
  have hlocks := B.notSynchronized
  subst hsz
  have hD := hD0.self (sz := s.heap.size)
  generalize hAe : va_A [(x, .inr (13, [.ref bv, .int 0, .int ml, .int (nI n)])), (bv, .inl (cB, cap, .inl f))] s.heap.size = A at hD ⊢
  have hA : ∀ q : Nat, s.heap.size ≤ q → A q := fun q h => by rw [← hAe]; exact Or.inr h
  have hS : va_S A s.heap s.heap [] := va_S.rf
  have hP : va_P (dC, dI) vwCl [(x, .inr (13, [.ref bv, .int 0, .int ml, .int (nI n)])), (bv, .inl (cB, cap, .inl f))] s.heap := hP
  have hl := lv_entry ([.ref x, .int 0]) (n := 2) (Nat.le_of_ble_eq_true rfl)
  rw [lg_entry_eq]
  generalize (lg_sl ([.ref x, .int 0]) ++ List.replicate (2 - (lg_sl ([.ref x, .int 0])).length) Slot.unset).toArray = ls at hl ⊢
  have hl : lv_has ls 2 [(0, .ref x), (1, .int 0)] := hl
  refine lv_aload_n hx hb d_SB_setLength_0 rfl (lv_at hl 0 rfl) ?_
  refine lv_iload_n hx hb d_SB_setLength_1 rfl (lv_at hl 1 rfl) ?_
  have hPc := hP.sub (ws' := [(x, .inr (13, [.ref bv, .int 0, .int ml, .int (nI n)])), (bv, .inl (cB, cap, .inl f))]) [0, 1] rfl
  have hDc := hD.sub (ws' := [(x, .inr (13, [.ref bv, .int 0, .int ml, .int (nI n)])), (bv, .inl (cB, cap, .inl f))]) [0, 1] (by decide) rfl
  have hFc := va_free (wc := [(x, .inr (13, [.ref bv, .int 0, .int ml, .int (nI n)])), (bv, .inl (cB, cap, .inl f))]) hD hS hA [0, 1] rfl
  have hKc := hK.sub (tys' := [(cB, .byte)]) [0] rfl
  refine va_callv (va_runSU (As := [.int 0]) (rest := []) (hK.1 13 _ rfl).2 ⟨hx, hb, hml, hown, htb⟩ (k_AB_setLength0 l dC dI _ x bv ml n cB f cap hn hc) (va_cwSU 1 htb (g_SU (fun _ h => h) m_199 m_197 m_1599 m_68 m_198 m_2) rfl rfl rfl (by decide +kernel) ⟨Nat.le_of_ble_eq_true rfl, Nat.le_of_ble_eq_true rfl⟩) ⟨fun a U g mk q => by obtain ⟨q0, q1, qP, qK, qD⟩ := q; exact ⟨q0, q1, qP, va_K.moved (u := U) (U := U.calling g mk a) (Vm.Alike.refl U.vm) qK, qD⟩, va_recv hK hP (ci := 13) rfl (q0 := 0) rfl, fun U hU hW => ⟨rfl, by rw [hU], by rw [hU]; exact hPc, va_K.moved hW.alike hKc, hDc.weaken (fun _ _ _ _ => trivial)⟩⟩ rfl rfl hl.1 rfl (lv_room (Nat.le_of_ble_eq_true rfl)) d_SB_setLength_2 ⟨Nat.le_of_ble_eq_true rfl, Nat.le_of_ble_eq_true rfl⟩) hS (fun q _ h => hFc q h) hFc (fun u1 t H1 locs ht hvm hw3 hB hz1 hk1 hS => ?_)
  obtain ⟨hP1, hK1, hD1⟩ := hB
  rw [ht] at hP1
  have hK1 := va_K.moved hvm.symm hK1
  have hw3 : True := hw3
  obtain ⟨hP, hD⟩ := va_join (wr := []) (w1 := [(x, .inr (13, [.ref bv, .int 0, .int u1, .int 0])), (bv, .inl (cB, cap, .inl f))]) hP hD [0, 1] [] rfl rfl (by decide) (by decide) hk1 hFc hP1 hD1
  have hK := (hK.sub (tys' := []) [] rfl).app hK1
  generalize H1 = H at hP hS ⊢
  have hP : va_P (dC, dI) vwCl [(x, .inr (13, [.ref bv, .int 0, .int u1, .int 0])), (bv, .inl (cB, cap, .inl f))] H := hP
  have hD : va_D A [(x, .inr (13, [.ref bv, .int 0, .int u1, .int 0])), (bv, .inl (cB, cap, .inl f))] := hD
  have hK : va_K (dC, dI) vwCl [(cB, .byte)] s := hK
  have hP9 := hP.sub (ws' := [(x, .inr (13, [.ref bv, .int 0, .int u1, .int 0])), (bv, .inl (cB, cap, .inl f))]) [0, 1] rfl
  have hD9 := hD.sub (ws' := [(x, .inr (13, [.ref bv, .int 0, .int u1, .int 0])), (bv, .inl (cB, cap, .inl f))]) [0, 1] (by decide) rfl
  have hK9 := hK.sub (tys' := [(cB, .byte)]) [0] rfl
  refine W.widen (k := 0) (n := 0) (Nat.le_of_ble_eq_true rfl) (Nat.le_of_ble_eq_true rfl) ?_
  exact W.vret hx hb hr (fun t ht hW => ⟨⟨u1, rfl, trivial, ⟨by rw [ht]; exact hP9, va_K.moved hW.alike hK9, hD9⟩⟩, hS.F ht⟩) hS.2.2 d_SB_setLength_5
