set_option maxHeartbeats 1000000 in
set_option maxRecDepth 100000 in
/-- checkIndex(i, n, _) in range -/
theorem q_PC_checkIndex_n (l : Launch) (dC : Nat → ClassId) (dI : Nat → Nat → Nat) (i : Nat) (n : Nat) (hi : i < n) (hn : n < 2 ^ 31) : Met l y_PC_checkIndex ws_PC_checkIndex ({ frames := 0, cells := 0, slots := 0, locals := 0 }) (va_Pc [.int (nI i), .int (nI n), .null] (fun U => va_P (dC, dI) vwCl [] U.heap ∧ va_K (dC, dI) vwCl [] U)) (vp_Si (fun (r : Int32) => r = nI i)) 0 0 (fun _ => False) := by
  refine Met.ofW (cc := c_PC_checkIndex) (maxL := 3) (ret := (some .int)) (by decide) rfl ?_
  intro p e s m args below meth c s₁ B hml hv
  obtain ⟨rfl, hP, hK⟩ := hv
  have hx := B.exec
  have hb := B.bytes
  have hr := B.returns
  have hts := atoms_spec (ws := ws_PC_checkIndex) B.pre
  have htb := fun w (h : w ∈ TBL) => hts w (List.mem_cons_of_mem _ h)
  have hown : s.vm.findClass R_PC = some m.cls := findClass_of_methodNamed B.named
  have hlocks := B.notSynchronized
  have hl := lv_entry ([.int (nI i), .int (nI n), .null]) (n := 3) (Nat.le_of_ble_eq_true rfl)
  rw [lg_entry_eq]
  generalize (lg_sl ([.int (nI i), .int (nI n), .null]) ++ List.replicate (3 - (lg_sl ([.int (nI i), .int (nI n), .null])).length) Slot.unset).toArray = ls at hl ⊢
  have hl : lv_has ls 3 [(0, .int (nI i)), (1, .int (nI n)), (2, .null)] := hl
  refine lv_iload_n hx hb d_PC_checkIndex_0 rfl (lv_at hl 0 rfl) ?_
  refine lv_if_lt (tgt := 9) hx hb d_PC_checkIndex_1 rfl (fun h9 => absurd h9 (nI_pos (by omega))) (fun _ => ?_)
  refine lv_iload_n hx hb d_PC_checkIndex_4 rfl (lv_at hl 0 rfl) ?_
  refine lv_iload_n hx hb d_PC_checkIndex_5 rfl (lv_at hl 1 rfl) ?_
  refine lv_icmp_lt (tgt := 16) hx hb d_PC_checkIndex_6 rfl (fun _ => ?_) (fun h9 => absurd (nI_lt hi hn) h9)
  refine lv_iload_n hx hb d_PC_checkIndex_16 rfl (lv_at hl 0 rfl) ?_
  exact W.iret (v := (nI i)) hx hb hr (fun t ht hW => ⟨(nI i), rfl, rfl, ht⟩) (fun q h => absurd h List.not_mem_nil) d_PC_checkIndex_17
set_option maxHeartbeats 1000000 in
set_option maxRecDepth 100000 in
/-- checkIndex(i, n, _) in range -/
theorem q_PC_checkIndex_r (l : Launch) (dC : Nat → ClassId) (dI : Nat → Nat → Nat) (i : Nat) (n : Nat) (fm : Nat) (hi : i < n) (hn : n < 2 ^ 31) : Met l y_PC_checkIndex ws_PC_checkIndex ({ frames := 0, cells := 0, slots := 0, locals := 0 }) (va_Pc [.int (nI i), .int (nI n), .ref fm] (fun U => va_P (dC, dI) vwCl [] U.heap ∧ va_K (dC, dI) vwCl [] U)) (vp_Si (fun (r : Int32) => r = nI i)) 0 0 (fun _ => False) := by
  refine Met.ofW (cc := c_PC_checkIndex) (maxL := 3) (ret := (some .int)) (by decide) rfl ?_
  intro p e s m args below meth c s₁ B hml hv
  obtain ⟨rfl, hP, hK⟩ := hv
  have hx := B.exec
  have hb := B.bytes
  have hr := B.returns
  have hts := atoms_spec (ws := ws_PC_checkIndex) B.pre
  have htb := fun w (h : w ∈ TBL) => hts w (List.mem_cons_of_mem _ h)
  have hown : s.vm.findClass R_PC = some m.cls := findClass_of_methodNamed B.named
  have hlocks := B.notSynchronized
  have hl := lv_entry ([.int (nI i), .int (nI n), .ref fm]) (n := 3) (Nat.le_of_ble_eq_true rfl)
  rw [lg_entry_eq]
  generalize (lg_sl ([.int (nI i), .int (nI n), .ref fm]) ++ List.replicate (3 - (lg_sl ([.int (nI i), .int (nI n), .ref fm])).length) Slot.unset).toArray = ls at hl ⊢
  have hl : lv_has ls 3 [(0, .int (nI i)), (1, .int (nI n)), (2, .ref fm)] := hl
  refine lv_iload_n hx hb d_PC_checkIndex_0 rfl (lv_at hl 0 rfl) ?_
  refine lv_if_lt (tgt := 9) hx hb d_PC_checkIndex_1 rfl (fun h9 => absurd h9 (nI_pos (by omega))) (fun _ => ?_)
  refine lv_iload_n hx hb d_PC_checkIndex_4 rfl (lv_at hl 0 rfl) ?_
  refine lv_iload_n hx hb d_PC_checkIndex_5 rfl (lv_at hl 1 rfl) ?_
  refine lv_icmp_lt (tgt := 16) hx hb d_PC_checkIndex_6 rfl (fun _ => ?_) (fun h9 => absurd (nI_lt hi hn) h9)
  refine lv_iload_n hx hb d_PC_checkIndex_16 rfl (lv_at hl 0 rfl) ?_
  exact W.iret (v := (nI i)) hx hb hr (fun t ht hW => ⟨(nI i), rfl, rfl, ht⟩) (fun q h => absurd h List.not_mem_nil) d_PC_checkIndex_17
set_option maxHeartbeats 1000000 in
set_option maxRecDepth 100000 in
theorem q_OB_checkIndex (l : Launch) (dC : Nat → ClassId) (dI : Nat → Nat → Nat) (i : Nat) (n : Nat) (hi : i < n) (hn : n < 2 ^ 31) : Met l y_OB_checkIndex ws_OB_checkIndex ({ frames := 1, cells := 0, slots := 0, locals := 22 }) (va_Pc [.int (nI i), .int (nI n)] (fun U => va_P (dC, dI) vwCl [] U.heap ∧ va_K (dC, dI) vwCl [] U)) (vp_Si (fun (r : Int32) => r = nI i)) 0 0 (fun _ => False) := by
  refine Met.ofW (cc := c_OB_checkIndex) (maxL := 2) (ret := (some .int)) (by decide) rfl ?_
  intro p e s m args below meth c s₁ B hml hv
  obtain ⟨rfl, hP, hK⟩ := hv
  have hx := B.exec
  have hb := B.bytes
  have hr := B.returns
  have hts := atoms_spec (ws := ws_OB_checkIndex) B.pre
  have htb := fun w (h : w ∈ TBL) => hts w (List.mem_cons_of_mem _ h)
  have hown : s.vm.findClass R_OB = some m.cls := findClass_of_methodNamed B.named
  have hlocks := B.notSynchronized
  have hl := lv_entry ([.int (nI i), .int (nI n)]) (n := 2) (Nat.le_of_ble_eq_true rfl)
  rw [lg_entry_eq]
  generalize (lg_sl ([.int (nI i), .int (nI n)]) ++ List.replicate (2 - (lg_sl ([.int (nI i), .int (nI n)])).length) Slot.unset).toArray = ls at hl ⊢
  have hl : lv_has ls 2 [(0, .int (nI i)), (1, .int (nI n))] := hl
  refine lv_iload_n hx hb d_OB_checkIndex_0 rfl (lv_at hl 0 rfl) ?_
  refine lv_iload_n hx hb d_OB_checkIndex_1 rfl (lv_at hl 1 rfl) ?_
  refine lv_null hx hb d_OB_checkIndex_2 ?_
  have hPc : va_P (dC, dI) vwCl [] _ := hP.sub (ws' := []) [] rfl
  have hKc := hK.sub (tys' := []) [] rfl
  refine vp_callSi (W.runS (As := [.int (nI i), .int (nI n), .null]) (rest := []) ⟨hx, hb, hml, hown, htb⟩ (q_PC_checkIndex_n l dC dI i n hi hn) (va_cwS 3 htb (g_S (fun _ h => h) m_368 m_494 m_367 m_17) rfl rfl rfl (by decide +kernel) ⟨Nat.le_of_ble_eq_true rfl, Nat.le_of_ble_eq_true rfl⟩) ⟨fun a U g mk q => by obtain ⟨q0, qP, qK⟩ := q; exact ⟨q0, qP, va_K.moved (u := U) (U := U.calling g mk a) (Vm.Alike.refl U.vm) qK⟩, fun U hU hW => ⟨rfl, by rw [hU]; exact hPc, va_K.moved hW.alike hKc⟩⟩ rfl rfl hl.1 rfl (lv_room (Nat.le_of_ble_eq_true rfl)) d_OB_checkIndex_3 ⟨Nat.le_of_ble_eq_true rfl, Nat.le_of_ble_eq_true rfl⟩) (fun r1 hw2 => ?_)
  have hw2 : r1 = nI i := hw2
  exact W.iret (v := r1) hx hb hr (fun t ht hW => ⟨r1, rfl, hw2, ht⟩) (fun q h => absurd h List.not_mem_nil) d_OB_checkIndex_6
set_option maxHeartbeats 1000000 in
set_option maxRecDepth 100000 in
/-- size() -/
theorem q_AL_size (l : Launch) (dC : Nat → ClassId) (dI : Nat → Nat → Nat) (x : Nat) (mo : Int32) (ed : Nat) (n : Nat) : Met l y_AL_size ws_AL_size ({ frames := 0, cells := 0, slots := 0, locals := 0 }) (va_Pc [.ref x] (fun U => va_P (dC, dI) vwCl [(x, .inr (14, [.ref ed, .int (nI n), .int mo]))] U.heap ∧ va_K (dC, dI) vwCl [] U)) (vp_Si (fun (r : Int32) => r = nI n)) 0 0 (fun _ => False) := by
  refine Met.ofW (cc := c_AL_size) (maxL := 1) (ret := (some .int)) (by decide) rfl ?_
  intro p e s m args below meth c s₁ B hml hv
  obtain ⟨rfl, hP, hK⟩ := hv
  have hx := B.exec
  have hb := B.bytes
  have hr := B.returns
  have hts := atoms_spec (ws := ws_AL_size) B.pre
  have htb := fun w (h : w ∈ TBL) => hts w (List.mem_cons_of_mem _ h)
  have hown : s.vm.findClass R_AL = some m.cls := findClass_of_methodNamed B.named
  have hlocks := B.notSynchronized
  have hl := lv_entry ([.ref x]) (n := 1) (Nat.le_of_ble_eq_true rfl)
  rw [lg_entry_eq]
  generalize (lg_sl ([.ref x]) ++ List.replicate (1 - (lg_sl ([.ref x])).length) Slot.unset).toArray = ls at hl ⊢
  have hl : lv_has ls 1 [(0, .ref x)] := hl
  refine lv_aload_n hx hb d_AL_size_0 rfl (lv_at hl 0 rfl) ?_
  refine va_get (D := (dC, dI)) (ci := 14) (v := .int (nI n)) (C := R_AL) (T := T_AL) (N := 3) hx hb htb in_AL hown hK hP 0 rfl rfl 1 (by decide) (htb _ m_88) (fun _ h9 => h9) rfl d_AL_size_1 ?_
  exact W.iret (v := (nI n)) hx hb hr (fun t ht hW => ⟨(nI n), rfl, rfl, ht⟩) (fun q h => absurd h List.not_mem_nil) d_AL_size_4
set_option maxHeartbeats 1000000 in
set_option maxRecDepth 100000 in
/-- isEmpty() -/
theorem q_AL_isEmpty (l : Launch) (dC : Nat → ClassId) (dI : Nat → Nat → Nat) (x : Nat) (mo : Int32) (ed : Nat) (n : Nat) (hn : n < 2 ^ 31) : Met l y_AL_isEmpty ws_AL_isEmpty ({ frames := 0, cells := 0, slots := 0, locals := 0 }) (va_Pc [.ref x] (fun U => va_P (dC, dI) vwCl [(x, .inr (14, [.ref ed, .int (nI n), .int mo]))] U.heap ∧ va_K (dC, dI) vwCl [] U)) (vp_Si (fun (r : Int32) => (r = 1 ∧ n = 0) ∨ (r = 0 ∧ n ≠ 0))) 0 0 (fun _ => False) := by
  refine Met.ofW (cc := c_AL_isEmpty) (maxL := 1) (ret := (some .boolean)) (by decide) rfl ?_
  intro p e s m args below meth c s₁ B hml hv
  obtain ⟨rfl, hP, hK⟩ := hv
  have hx := B.exec
  have hb := B.bytes
  have hr := B.returns
  have hts := atoms_spec (ws := ws_AL_isEmpty) B.pre
  have htb := fun w (h : w ∈ TBL) => hts w (List.mem_cons_of_mem _ h)
  have hown : s.vm.findClass R_AL = some m.cls := findClass_of_methodNamed B.named
  have hlocks := B.notSynchronized
  have hl := lv_entry ([.ref x]) (n := 1) (Nat.le_of_ble_eq_true rfl)
  rw [lg_entry_eq]
  generalize (lg_sl ([.ref x]) ++ List.replicate (1 - (lg_sl ([.ref x])).length) Slot.unset).toArray = ls at hl ⊢
  have hl : lv_has ls 1 [(0, .ref x)] := hl
  refine lv_aload_n hx hb d_AL_isEmpty_0 rfl (lv_at hl 0 rfl) ?_
  refine va_get (D := (dC, dI)) (ci := 14) (v := .int (nI n)) (C := R_AL) (T := T_AL) (N := 3) hx hb htb in_AL hown hK hP 0 rfl rfl 1 (by decide) (htb _ m_88) (fun _ h9 => h9) rfl d_AL_isEmpty_1 ?_
  refine lv_if_ne (tgt := 11) hx hb d_AL_isEmpty_4 rfl (fun h1 => ?_) (fun h1 => ?_)
  · refine lv_iconst (v := 0) hx hb d_AL_isEmpty_11 (by decide) ?_
    exact W.zret (v := 0) hx hb hr (by decide) (fun t ht hW => ⟨0, rfl, Or.inr ⟨rfl, fun h => h1 (by rw [h]; rfl)⟩, ht⟩) (fun q h => absurd h List.not_mem_nil) d_AL_isEmpty_12
  · refine lv_iconst (v := 1) hx hb d_AL_isEmpty_7 (by decide) ?_
    refine lv_goto (tgt := 12) hx hb d_AL_isEmpty_8 rfl ?_
    exact W.zret (v := 1) hx hb hr (by decide) (fun t ht hW => ⟨1, rfl, Or.inl ⟨rfl, (nI_eq hn (by decide)).mp (show nI n = nI 0 from h1)⟩, ht⟩) (fun q h => absurd h List.not_mem_nil) d_AL_isEmpty_12
set_option maxHeartbeats 1000000 in
set_option maxRecDepth 100000 in
/-- elementData(i) -/
theorem q_AL_elementData (l : Launch) (dC : Nat → ClassId) (dI : Nat → Nat → Nat) (x : Nat) (mo : Int32) (ed : Nat) (n : Nat) (cO : ClassId) (cap : Nat) (g : Nat → Option Nat) (i : Nat) (hi : i < n) (hn : n ≤ cap) (hc : cap < 2 ^ 31) : Met l y_AL_elementData ws_AL_elementData ({ frames := 0, cells := 0, slots := 0, locals := 0 }) (va_Pc [.ref x, .int (nI i)] (fun U => va_P (dC, dI) vwCl [(x, .inr (14, [.ref ed, .int (nI n), .int mo])), (ed, .inl (cO, cap, .inr (.inr (.inr (.inr g)))))] U.heap ∧ va_K (dC, dI) vwCl [(cO, .object "java/lang/Object")] U)) (va_Sq (fun (r : Option Nat) => r = g i)) 0 0 (fun _ => False) := by
  refine Met.ofW (cc := c_AL_elementData) (maxL := 2) (ret := (some (.object "java/lang/Object"))) (by decide) rfl ?_
  intro p e s m args below meth c s₁ B hml hv
  obtain ⟨rfl, hP, hK⟩ := hv
  have hx := B.exec
  have hb := B.bytes
  have hr := B.returns
  have hts := atoms_spec (ws := ws_AL_elementData) B.pre
  have htb := fun w (h : w ∈ TBL) => hts w (List.mem_cons_of_mem _ h)
  have hown : s.vm.findClass R_AL = some m.cls := findClass_of_methodNamed B.named
  have hlocks := B.notSynchronized
  have hl := lv_entry ([.ref x, .int (nI i)]) (n := 2) (Nat.le_of_ble_eq_true rfl)
  rw [lg_entry_eq]
  generalize (lg_sl ([.ref x, .int (nI i)]) ++ List.replicate (2 - (lg_sl ([.ref x, .int (nI i)])).length) Slot.unset).toArray = ls at hl ⊢
  have hl : lv_has ls 2 [(0, .ref x), (1, .int (nI i))] := hl
  refine lv_aload_n hx hb d_AL_elementData_0 rfl (lv_at hl 0 rfl) ?_
  refine va_get (D := (dC, dI)) (ci := 14) (v := .ref ed) (C := R_AL) (T := T_AL) (N := 3) hx hb htb in_AL hown hK hP 0 rfl rfl 0 (by decide) (htb _ m_87) (fun _ h9 => h9) rfl d_AL_elementData_1 ?_
  refine lv_iload_n hx hb d_AL_elementData_4 rfl (lv_at hl 1 rfl) ?_
  refine va_aldq hx hb hK hP 1 0 rfl rfl (vp_in_nI (by omega) hc) d_AL_elementData_5 ?_
  refine W.eq (congrArg (fun z => F0 m 6 ls (va_rf (g z) :: [])) (nI_clamp (by omega) : (nI i).toNatClampNeg = i)) ?_
  exact W.aret (v := va_rf (g i)) hx hb hr (Or.inl ⟨_, rfl⟩) (by cases ((g i)) with | none => exact Or.inl rfl | some a => exact Or.inr ⟨_, rfl⟩) (fun t ht hW => ⟨(g i), rfl, rfl, ht⟩) (fun q h => absurd h List.not_mem_nil) d_AL_elementData_6
set_option maxHeartbeats 1000000 in
set_option maxRecDepth 100000 in
/-- get(i) -/
theorem q_AL_get (l : Launch) (dC : Nat → ClassId) (dI : Nat → Nat → Nat) (x : Nat) (mo : Int32) (ed : Nat) (n : Nat) (cO : ClassId) (cap : Nat) (g : Nat → Option Nat) (i : Nat) (hi : i < n) (hn : n ≤ cap) (hc : cap < 2 ^ 31) : Met l y_AL_get ws_AL_get ({ frames := 2, cells := 0, slots := 0, locals := 43 }) (va_Pc [.ref x, .int (nI i)] (fun U => va_P (dC, dI) vwCl [(x, .inr (14, [.ref ed, .int (nI n), .int mo])), (ed, .inl (cO, cap, .inr (.inr (.inr (.inr g)))))] U.heap ∧ va_K (dC, dI) vwCl [(cO, .object "java/lang/Object")] U)) (va_Sq (fun (r : Option Nat) => r = g i)) 0 0 (fun _ => False) := by
  refine Met.ofW (cc := c_AL_get) (maxL := 2) (ret := (some (.object "java/lang/Object"))) (by decide) rfl ?_
  intro p e s m args below meth c s₁ B hml hv
  obtain ⟨rfl, hP, hK⟩ := hv
  have hx := B.exec
  have hb := B.bytes
  have hr := B.returns
  have hts := atoms_spec (ws := ws_AL_get) B.pre
  have htb := fun w (h : w ∈ TBL) => hts w (List.mem_cons_of_mem _ h)
  have hown : s.vm.findClass R_AL = some m.cls := findClass_of_methodNamed B.named
  have hlocks := B.notSynchronized
  have hl := lv_entry ([.ref x, .int (nI i)]) (n := 2) (Nat.le_of_ble_eq_true rfl)
  rw [lg_entry_eq]
  generalize (lg_sl ([.ref x, .int (nI i)]) ++ List.replicate (2 - (lg_sl ([.ref x, .int (nI i)])).length) Slot.unset).toArray = ls at hl ⊢
  have hl : lv_has ls 2 [(0, .ref x), (1, .int (nI i))] := hl
  refine lv_iload_n hx hb d_AL_get_0 rfl (lv_at hl 1 rfl) ?_
  refine lv_aload_n hx hb d_AL_get_1 rfl (lv_at hl 0 rfl) ?_
  refine va_get (D := (dC, dI)) (ci := 14) (v := .int (nI n)) (C := R_AL) (T := T_AL) (N := 3) hx hb htb in_AL hown hK hP 0 rfl rfl 1 (by decide) (htb _ m_88) (fun _ h9 => h9) rfl d_AL_get_2 ?_
  have hPc : va_P (dC, dI) vwCl [] _ := hP.sub (ws' := []) [] rfl
  have hKc := hK.sub (tys' := []) [] rfl
  refine vp_callSi (W.runS (As := [.int (nI i), .int (nI n)]) (rest := []) ⟨hx, hb, hml, hown, htb⟩ (q_OB_checkIndex l dC dI i n hi (by omega)) (va_cwS 2 htb (g_S (fun _ h => h) m_493 m_491 m_492 m_19) rfl rfl rfl (by decide +kernel) ⟨Nat.le_of_ble_eq_true rfl, Nat.le_of_ble_eq_true rfl⟩) ⟨fun a U g mk q => by obtain ⟨q0, qP, qK⟩ := q; exact ⟨q0, qP, va_K.moved (u := U) (U := U.calling g mk a) (Vm.Alike.refl U.vm) qK⟩, fun U hU hW => ⟨rfl, by rw [hU]; exact hPc, va_K.moved hW.alike hKc⟩⟩ rfl rfl hl.1 rfl (lv_room (Nat.le_of_ble_eq_true rfl)) d_AL_get_5 ⟨Nat.le_of_ble_eq_true rfl, Nat.le_of_ble_eq_true rfl⟩) (fun r1 hw2 => ?_)
  have hw2 : r1 = nI i := hw2
  refine lv_pop hx hb d_AL_get_8 rfl ?_
  refine lv_aload_n hx hb d_AL_get_9 rfl (lv_at hl 0 rfl) ?_
  refine lv_iload_n hx hb d_AL_get_10 rfl (lv_at hl 1 rfl) ?_
  have hPc : va_P (dC, dI) vwCl [(x, .inr (14, [.ref ed, .int (nI n), .int mo])), (ed, .inl (cO, cap, .inr (.inr (.inr (.inr g)))))] _ := hP.sub (ws' := [(x, .inr (14, [.ref ed, .int (nI n), .int mo])), (ed, .inl (cO, cap, .inr (.inr (.inr (.inr g)))))]) [0, 1] rfl
  have hKc := hK.sub (tys' := [(cO, .object "java/lang/Object")]) [0] rfl
  refine va_csq (W.runV (As := [.int (nI i)]) (rest := []) ⟨hx, hb, hml, hown, htb⟩ (q_AL_elementData l dC dI x mo ed n cO cap g i hi hn hc) (cwV 1 htb (g_V (fun _ h => h) m_498 m_495 m_496 m_497 m_8) rfl rfl rfl (by decide +kernel) ⟨Nat.le_of_ble_eq_true rfl, Nat.le_of_ble_eq_true rfl⟩) ⟨fun a U g mk q => by obtain ⟨q0, qP, qK⟩ := q; exact ⟨q0, qP, va_K.moved (u := U) (U := U.calling g mk a) (Vm.Alike.refl U.vm) qK⟩, va_recv hKc hPc (ci := 14) rfl (q0 := 0) rfl, fun U hU hW => ⟨rfl, by rw [hU]; exact hPc, va_K.moved hW.alike hKc⟩⟩ rfl rfl hl.1 rfl (lv_room (Nat.le_of_ble_eq_true rfl)) d_AL_get_11 ⟨Nat.le_of_ble_eq_true rfl, Nat.le_of_ble_eq_true rfl⟩) (fun r3 hw4 => ?_)
  have hw4 : r3 = g i := hw4
  exact W.aret (v := va_rf r3) hx hb hr (Or.inl ⟨_, rfl⟩) (by cases (r3) with | none => exact Or.inl rfl | some a => exact Or.inr ⟨_, rfl⟩) (fun t ht hW => ⟨r3, rfl, hw4, ht⟩) (fun q h => absurd h List.not_mem_nil) d_AL_get_14
