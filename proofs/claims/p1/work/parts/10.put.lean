set_option maxHeartbeats 1000000 in
set_option maxRecDepth 100000 in
/-- at the draft's end -/
theorem k0_CU_ahead (l : Launch) (dC : Nat → ClassId) (dI : Nat → Nat → Nat) (sz : Nat) (cu : Nat) (dl : Nat) (sb : Nat) : Met l y_CU_ahead ws_CU_ahead ({ frames := 0, cells := 0, slots := 0, locals := 0 }) (va_Pc [.ref cu] (fun U => U.heap.size = sz ∧ va_P (dC, dI) vwCl [(cu, .inr (1, [.ref dl, .int 0, .int 0, .ref sb]))] U.heap ∧ va_K (dC, dI) vwCl [] U ∧ va_D (fun _ => True) [(cu, .inr (1, [.ref dl, .int 0, .int 0, .ref sb]))])) (va_Qi (fun (r : Int32) (u : Unit) => r = 0) (fun u t => va_P (dC, dI) vwCl [(cu, .inr (1, [.ref dl, .int 0, .int 0, .ref sb]))] t.heap ∧ va_K (dC, dI) vwCl [] t ∧ va_D (va_A [(cu, .inr (1, [.ref dl, .int 0, .int 0, .ref sb]))] sz) [(cu, .inr (1, [.ref dl, .int 0, .int 0, .ref sb]))]) (va_A [(cu, .inr (1, [.ref dl, .int 0, .int 0, .ref sb]))] sz)) 0 0 (va_A [(cu, .inr (1, [.ref dl, .int 0, .int 0, .ref sb]))] sz) := by
  refine Met.ofW (cc := c_CU_ahead) (maxL := 1) (ret := (some .char)) (by decide) rfl ?_
  intro p e s m args below meth c s₁ B hml hv
  obtain ⟨rfl, hsz, hP, hK, hD0⟩ := hv
  have hx := B.exec
  have hb := B.bytes
  have hr := B.returns
  have hts := atoms_spec (ws := ws_CU_ahead) B.pre
  have htb := fun w (h : w ∈ TBL) => hts w (List.mem_cons_of_mem _ h)
  have hown : s.vm.findClass R_CU = some m.cls := findClass_of_methodNamed B.named
  have hlocks := B.notSynchronized
  subst hsz
  have hD := hD0.self (sz := s.heap.size)
  generalize hAe : va_A [(cu, .inr (1, [.ref dl, .int 0, .int 0, .ref sb]))] s.heap.size = A at hD ⊢
  have hA : ∀ q : Nat, s.heap.size ≤ q → A q := fun q h => by rw [← hAe]; exact Or.inr h
  have hS : va_S A s.heap s.heap [] := va_S.rf
  have hP : va_P (dC, dI) vwCl [(cu, .inr (1, [.ref dl, .int 0, .int 0, .ref sb]))] s.heap := hP
  have hl := lv_entry ([.ref cu]) (n := 1) (Nat.le_of_ble_eq_true rfl)
  rw [lg_entry_eq]
  generalize (lg_sl ([.ref cu]) ++ List.replicate (1 - (lg_sl ([.ref cu])).length) Slot.unset).toArray = ls at hl ⊢
  have hl : lv_has ls 1 [(0, .ref cu)] := hl
  refine lv_aload_n hx hb d_CU_ahead_0 rfl (lv_at hl 0 rfl) ?_
  refine va_get (D := (dC, dI)) (ci := 1) (v := .int 0) (C := R_CU) (T := T_CU) (N := 4) hx hb htb in_CU hown hK hP 0 rfl rfl 2 (by decide) (htb _ m_144) (fun _ h9 => h9) rfl d_CU_ahead_1 ?_
  refine lv_aload_n hx hb d_CU_ahead_4 rfl (lv_at hl 0 rfl) ?_
  refine va_get (D := (dC, dI)) (ci := 1) (v := .int 0) (C := R_CU) (T := T_CU) (N := 4) hx hb htb in_CU hown hK hP 0 rfl rfl 1 (by decide) (htb _ m_143) (fun _ h9 => h9) rfl d_CU_ahead_5 ?_
  refine lv_icmp_ge (tgt := 23) hx hb d_CU_ahead_8 rfl (fun _ => ?_) (fun h9 => absurd (by decide) h9)
  refine lv_iconst (v := 0) hx hb d_CU_ahead_23 (by decide) ?_
  have hP9 := hP.sub (ws' := [(cu, .inr (1, [.ref dl, .int 0, .int 0, .ref sb]))]) [0] rfl
  have hD9 := hD.sub (ws' := [(cu, .inr (1, [.ref dl, .int 0, .int 0, .ref sb]))]) [0] (by decide) rfl
  have hK9 := hK.sub (tys' := []) [] rfl
  refine W.widen (k := 0) (n := 0) (Nat.le_of_ble_eq_true rfl) (Nat.le_of_ble_eq_true rfl) ?_
  exact W.zret (v := 0) hx hb hr (by decide) (fun t ht hW => ⟨⟨0, (), rfl, rfl, ⟨by rw [ht]; exact hP9, va_K.moved hW.alike hK9, hD9⟩⟩, hS.F ht⟩) hS.2.2 d_CU_ahead_24
set_option maxHeartbeats 1000000 in
set_option maxRecDepth 100000 in
/-- at the draft's end -/
theorem k0_CU_took (l : Launch) (dC : Nat → ClassId) (dI : Nat → Nat → Nat) (sz : Nat) (cu : Nat) (dl : Nat) (sb : Nat) (ch : Int32) : Met l y_CU_took ws_CU_took ({ frames := 0, cells := 0, slots := 0, locals := 0 }) (va_Pc [.ref cu, .int ch] (fun U => U.heap.size = sz ∧ va_P (dC, dI) vwCl [(cu, .inr (1, [.ref dl, .int 0, .int 0, .ref sb]))] U.heap ∧ va_K (dC, dI) vwCl [] U ∧ va_D (fun _ => True) [(cu, .inr (1, [.ref dl, .int 0, .int 0, .ref sb]))])) (va_Qi (fun (r : Int32) (u : Unit) => r = 0) (fun u t => va_P (dC, dI) vwCl [(cu, .inr (1, [.ref dl, .int 0, .int 0, .ref sb]))] t.heap ∧ va_K (dC, dI) vwCl [] t ∧ va_D (va_A [(cu, .inr (1, [.ref dl, .int 0, .int 0, .ref sb]))] sz) [(cu, .inr (1, [.ref dl, .int 0, .int 0, .ref sb]))]) (va_A [(cu, .inr (1, [.ref dl, .int 0, .int 0, .ref sb]))] sz)) 0 0 (va_A [(cu, .inr (1, [.ref dl, .int 0, .int 0, .ref sb]))] sz) := by
  refine Met.ofW (cc := c_CU_took) (maxL := 2) (ret := (some .boolean)) (by decide) rfl ?_
  intro p e s m args below meth c s₁ B hml hv
  obtain ⟨rfl, hsz, hP, hK, hD0⟩ := hv
  have hx := B.exec
  have hb := B.bytes
  have hr := B.returns
  have hts := atoms_spec (ws := ws_CU_took) B.pre
  have htb := fun w (h : w ∈ TBL) => hts w (List.mem_cons_of_mem _ h)
  have hown : s.vm.findClass R_CU = some m.cls := findClass_of_methodNamed B.named
  have hlocks := B.notSynchronized
  subst hsz
  have hD := hD0.self (sz := s.heap.size)
  generalize hAe : va_A [(cu, .inr (1, [.ref dl, .int 0, .int 0, .ref sb]))] s.heap.size = A at hD ⊢
  have hA : ∀ q : Nat, s.heap.size ≤ q → A q := fun q h => by rw [← hAe]; exact Or.inr h
  have hS : va_S A s.heap s.heap [] := va_S.rf
  have hP : va_P (dC, dI) vwCl [(cu, .inr (1, [.ref dl, .int 0, .int 0, .ref sb]))] s.heap := hP
  have hl := lv_entry ([.ref cu, .int ch]) (n := 2) (Nat.le_of_ble_eq_true rfl)
  rw [lg_entry_eq]
  generalize (lg_sl ([.ref cu, .int ch]) ++ List.replicate (2 - (lg_sl ([.ref cu, .int ch])).length) Slot.unset).toArray = ls at hl ⊢
  have hl : lv_has ls 2 [(0, .ref cu), (1, .int ch)] := hl
  refine lv_aload_n hx hb d_CU_took_0 rfl (lv_at hl 0 rfl) ?_
  refine va_get (D := (dC, dI)) (ci := 1) (v := .int 0) (C := R_CU) (T := T_CU) (N := 4) hx hb htb in_CU hown hK hP 0 rfl rfl 2 (by decide) (htb _ m_144) (fun _ h9 => h9) rfl d_CU_took_1 ?_
  refine lv_aload_n hx hb d_CU_took_4 rfl (lv_at hl 0 rfl) ?_
  refine va_get (D := (dC, dI)) (ci := 1) (v := .int 0) (C := R_CU) (T := T_CU) (N := 4) hx hb htb in_CU hown hK hP 0 rfl rfl 1 (by decide) (htb _ m_143) (fun _ h9 => h9) rfl d_CU_took_5 ?_
  refine lv_icmp_ge (tgt := 24) hx hb d_CU_took_8 rfl (fun _ => ?_) (fun h9 => absurd (by decide) h9)
  refine lv_iconst (v := 0) hx hb d_CU_took_24 (by decide) ?_
  have hP9 := hP.sub (ws' := [(cu, .inr (1, [.ref dl, .int 0, .int 0, .ref sb]))]) [0] rfl
  have hD9 := hD.sub (ws' := [(cu, .inr (1, [.ref dl, .int 0, .int 0, .ref sb]))]) [0] (by decide) rfl
  have hK9 := hK.sub (tys' := []) [] rfl
  refine W.widen (k := 0) (n := 0) (Nat.le_of_ble_eq_true rfl) (Nat.le_of_ble_eq_true rfl) ?_
  exact W.zret (v := 0) hx hb hr (by decide) (fun t ht hW => ⟨⟨0, (), rfl, rfl, ⟨by rw [ht]; exact hP9, va_K.moved hW.alike hK9, hD9⟩⟩, hS.F ht⟩) hS.2.2 d_CU_took_25
set_option maxHeartbeats 1000000 in
set_option maxRecDepth 100000 in
/-- at the draft's end -/
theorem k0_CU_skipBlanks (l : Launch) (dC : Nat → ClassId) (dI : Nat → Nat → Nat) (sz : Nat) (cu : Nat) (dl : Nat) (sb : Nat) : Met l y_CU_skipBlanks ws_CU_skipBlanks ({ frames := 0, cells := 0, slots := 0, locals := 0 }) (va_Pc [.ref cu] (fun U => U.heap.size = sz ∧ va_P (dC, dI) vwCl [(cu, .inr (1, [.ref dl, .int 0, .int 0, .ref sb]))] U.heap ∧ va_K (dC, dI) vwCl [] U ∧ va_D (fun _ => True) [(cu, .inr (1, [.ref dl, .int 0, .int 0, .ref sb]))])) (va_Qv (fun (u : Unit) => True) (fun u t => va_P (dC, dI) vwCl [(cu, .inr (1, [.ref dl, .int 0, .int 0, .ref sb]))] t.heap ∧ va_K (dC, dI) vwCl [] t ∧ va_D (va_A [(cu, .inr (1, [.ref dl, .int 0, .int 0, .ref sb]))] sz) [(cu, .inr (1, [.ref dl, .int 0, .int 0, .ref sb]))]) (va_A [(cu, .inr (1, [.ref dl, .int 0, .int 0, .ref sb]))] sz)) 0 0 (va_A [(cu, .inr (1, [.ref dl, .int 0, .int 0, .ref sb]))] sz) := by
  refine Met.ofW (cc := c_CU_skipBlanks) (maxL := 1) (ret := none) (by decide) rfl ?_
  intro p e s m args below meth c s₁ B hml hv
  obtain ⟨rfl, hsz, hP, hK, hD0⟩ := hv
  have hx := B.exec
  have hb := B.bytes
  have hr := B.returns
  have hts := atoms_spec (ws := ws_CU_skipBlanks) B.pre
  have htb := fun w (h : w ∈ TBL) => hts w (List.mem_cons_of_mem _ h)
  have hown : s.vm.findClass R_CU = some m.cls := findClass_of_methodNamed B.named
  have hlocks := B.notSynchronized
  subst hsz
  have hD := hD0.self (sz := s.heap.size)
  generalize hAe : va_A [(cu, .inr (1, [.ref dl, .int 0, .int 0, .ref sb]))] s.heap.size = A at hD ⊢
  have hA : ∀ q : Nat, s.heap.size ≤ q → A q := fun q h => by rw [← hAe]; exact Or.inr h
  have hS : va_S A s.heap s.heap [] := va_S.rf
  have hP : va_P (dC, dI) vwCl [(cu, .inr (1, [.ref dl, .int 0, .int 0, .ref sb]))] s.heap := hP
  have hl := lv_entry ([.ref cu]) (n := 1) (Nat.le_of_ble_eq_true rfl)
  rw [lg_entry_eq]
  generalize (lg_sl ([.ref cu]) ++ List.replicate (1 - (lg_sl ([.ref cu])).length) Slot.unset).toArray = ls at hl ⊢
  have hl : lv_has ls 1 [(0, .ref cu)] := hl
  refine lv_aload_n hx hb d_CU_skipBlanks_0 rfl (lv_at hl 0 rfl) ?_
  refine va_get (D := (dC, dI)) (ci := 1) (v := .int 0) (C := R_CU) (T := T_CU) (N := 4) hx hb htb in_CU hown hK hP 0 rfl rfl 2 (by decide) (htb _ m_144) (fun _ h9 => h9) rfl d_CU_skipBlanks_1 ?_
  refine lv_aload_n hx hb d_CU_skipBlanks_4 rfl (lv_at hl 0 rfl) ?_
  refine va_get (D := (dC, dI)) (ci := 1) (v := .int 0) (C := R_CU) (T := T_CU) (N := 4) hx hb htb in_CU hown hK hP 0 rfl rfl 1 (by decide) (htb _ m_143) (fun _ h9 => h9) rfl d_CU_skipBlanks_5 ?_
  refine lv_icmp_ge (tgt := 38) hx hb d_CU_skipBlanks_8 rfl (fun _ => ?_) (fun h9 => absurd (by decide) h9)
  have hP9 := hP.sub (ws' := [(cu, .inr (1, [.ref dl, .int 0, .int 0, .ref sb]))]) [0] rfl
  have hD9 := hD.sub (ws' := [(cu, .inr (1, [.ref dl, .int 0, .int 0, .ref sb]))]) [0] (by decide) rfl
  have hK9 := hK.sub (tys' := []) [] rfl
  refine W.widen (k := 0) (n := 0) (Nat.le_of_ble_eq_true rfl) (Nat.le_of_ble_eq_true rfl) ?_
  exact W.vret hx hb hr (fun t ht hW => ⟨⟨(), rfl, trivial, ⟨by rw [ht]; exact hP9, va_K.moved hW.alike hK9, hD9⟩⟩, hS.F ht⟩) hS.2.2 d_CU_skipBlanks_38
set_option maxHeartbeats 1000000 in
set_option maxRecDepth 100000 in
/-- at the draft's end -/
theorem k0_CU_isAtNumber (l : Launch) (dC : Nat → ClassId) (dI : Nat → Nat → Nat) (sz : Nat) (cu : Nat) (dl : Nat) (sb : Nat) : Met l y_CU_isAtNumber ws_CU_isAtNumber ({ frames := 0, cells := 0, slots := 0, locals := 0 }) (va_Pc [.ref cu] (fun U => U.heap.size = sz ∧ va_P (dC, dI) vwCl [(cu, .inr (1, [.ref dl, .int 0, .int 0, .ref sb]))] U.heap ∧ va_K (dC, dI) vwCl [] U ∧ va_D (fun _ => True) [(cu, .inr (1, [.ref dl, .int 0, .int 0, .ref sb]))])) (va_Qi (fun (r : Int32) (u : Unit) => r = 0) (fun u t => va_P (dC, dI) vwCl [(cu, .inr (1, [.ref dl, .int 0, .int 0, .ref sb]))] t.heap ∧ va_K (dC, dI) vwCl [] t ∧ va_D (va_A [(cu, .inr (1, [.ref dl, .int 0, .int 0, .ref sb]))] sz) [(cu, .inr (1, [.ref dl, .int 0, .int 0, .ref sb]))]) (va_A [(cu, .inr (1, [.ref dl, .int 0, .int 0, .ref sb]))] sz)) 0 0 (va_A [(cu, .inr (1, [.ref dl, .int 0, .int 0, .ref sb]))] sz) := by
  refine Met.ofW (cc := c_CU_isAtNumber) (maxL := 1) (ret := (some .boolean)) (by decide) rfl ?_
  intro p e s m args below meth c s₁ B hml hv
  obtain ⟨rfl, hsz, hP, hK, hD0⟩ := hv
  have hx := B.exec
  have hb := B.bytes
  have hr := B.returns
  have hts := atoms_spec (ws := ws_CU_isAtNumber) B.pre
  have htb := fun w (h : w ∈ TBL) => hts w (List.mem_cons_of_mem _ h)
  have hown : s.vm.findClass R_CU = some m.cls := findClass_of_methodNamed B.named
  have hlocks := B.notSynchronized
  subst hsz
  have hD := hD0.self (sz := s.heap.size)
  generalize hAe : va_A [(cu, .inr (1, [.ref dl, .int 0, .int 0, .ref sb]))] s.heap.size = A at hD ⊢
  have hA : ∀ q : Nat, s.heap.size ≤ q → A q := fun q h => by rw [← hAe]; exact Or.inr h
  have hS : va_S A s.heap s.heap [] := va_S.rf
  have hP : va_P (dC, dI) vwCl [(cu, .inr (1, [.ref dl, .int 0, .int 0, .ref sb]))] s.heap := hP
  have hl := lv_entry ([.ref cu]) (n := 1) (Nat.le_of_ble_eq_true rfl)
  rw [lg_entry_eq]
  generalize (lg_sl ([.ref cu]) ++ List.replicate (1 - (lg_sl ([.ref cu])).length) Slot.unset).toArray = ls at hl ⊢
  have hl : lv_has ls 1 [(0, .ref cu)] := hl
  refine lv_aload_n hx hb d_CU_isAtNumber_0 rfl (lv_at hl 0 rfl) ?_
  refine va_get (D := (dC, dI)) (ci := 1) (v := .int 0) (C := R_CU) (T := T_CU) (N := 4) hx hb htb in_CU hown hK hP 0 rfl rfl 2 (by decide) (htb _ m_144) (fun _ h9 => h9) rfl d_CU_isAtNumber_1 ?_
  refine lv_aload_n hx hb d_CU_isAtNumber_4 rfl (lv_at hl 0 rfl) ?_
  refine va_get (D := (dC, dI)) (ci := 1) (v := .int 0) (C := R_CU) (T := T_CU) (N := 4) hx hb htb in_CU hown hK hP 0 rfl rfl 1 (by decide) (htb _ m_143) (fun _ h9 => h9) rfl d_CU_isAtNumber_5 ?_
  refine lv_icmp_ge (tgt := 44) hx hb d_CU_isAtNumber_8 rfl (fun _ => ?_) (fun h9 => absurd (by decide) h9)
  refine lv_iconst (v := 0) hx hb d_CU_isAtNumber_44 (by decide) ?_
  have hP9 := hP.sub (ws' := [(cu, .inr (1, [.ref dl, .int 0, .int 0, .ref sb]))]) [0] rfl
  have hD9 := hD.sub (ws' := [(cu, .inr (1, [.ref dl, .int 0, .int 0, .ref sb]))]) [0] (by decide) rfl
  have hK9 := hK.sub (tys' := []) [] rfl
  refine W.widen (k := 0) (n := 0) (Nat.le_of_ble_eq_true rfl) (Nat.le_of_ble_eq_true rfl) ?_
  exact W.zret (v := 0) hx hb hr (by decide) (fun t ht hW => ⟨⟨0, (), rfl, rfl, ⟨by rw [ht]; exact hP9, va_K.moved hW.alike hK9, hD9⟩⟩, hS.F ht⟩) hS.2.2 d_CU_isAtNumber_45
set_option maxHeartbeats 1000000 in
set_option maxRecDepth 100000 in
theorem k_ST_coder (l : Launch) (dC : Nat → ClassId) (dI : Nat → Nat → Nat) (sz : Nat) (em : Nat) (aK : Nat → Nat) (aV : Nat → Nat) : Met l y_ST_coder ws_ST_coder ({ frames := 0, cells := 0, slots := 0, locals := 0 }) (va_Pc [.ref (aK 0)] (fun U => U.heap.size = sz ∧ va_P (dC, dI) vwCl [] U.heap ∧ va_K (dC, dI) vwCl [] U ∧ va_D (fun _ => True) [] ∧ EX em aK aV (va_A [] sz) U U.heap)) (va_Qi (fun (r : Int32) (u : Unit) => r = 0) (fun u t => va_P (dC, dI) vwCl [] t.heap ∧ va_K (dC, dI) vwCl [] t ∧ va_D (va_A [] sz) []) (va_A [] sz)) 0 0 (va_A [] sz) := by
  refine Met.ofW (cc := c_ST_coder) (maxL := 1) (ret := (some .byte)) (by decide) rfl ?_
  intro p e s m args below meth c s₁ B hml hv
  obtain ⟨rfl, hsz, hP, hK, hD0, hE⟩ := hv
  have hx := B.exec
  have hb := B.bytes
  have hr := B.returns
  have hts := atoms_spec (ws := ws_ST_coder) B.pre
  have htb := fun w (h : w ∈ TBL) => hts w (List.mem_cons_of_mem _ h)
  have hown : s.vm.findClass R_ST = some m.cls := findClass_of_methodNamed B.named
  have hlocks := B.notSynchronized
  subst hsz
  have hD := hD0.self (sz := s.heap.size)
  generalize hAe : va_A [] s.heap.size = A at hD hE ⊢
  have hA : ∀ q : Nat, s.heap.size ≤ q → A q := fun q h => by rw [← hAe]; exact Or.inr h
  have hS : va_S A s.heap s.heap [] := va_S.rf
  have hP : va_P (dC, dI) vwCl [] s.heap := hP
  have hl := lv_entry ([.ref (aK 0)]) (n := 1) (Nat.le_of_ble_eq_true rfl)
  rw [lg_entry_eq]
  generalize (lg_sl ([.ref (aK 0)]) ++ List.replicate (1 - (lg_sl ([.ref (aK 0)])).length) Slot.unset).toArray = ls at hl ⊢
  have hl : lv_has ls 1 [(0, .ref (aK 0))] := hl
  refine va_gets hx hb hE.2.2.1 hS hown (htb _ m_289) (fun _ h9 => h9) d_ST_coder_0 ?_
  refine lv_if_eq (tgt := 13) hx hb d_ST_coder_3 rfl (fun h9 => absurd h9 (by decide)) (fun _ => ?_)
  refine lv_aload_n hx hb d_ST_coder_6 rfl (lv_at hl 0 rfl) ?_
  refine vk_getf hx hb (hE.2.2.2.2.2.1.1 0 (by decide)).2.1 hS hown (htb _ m_324) (fun _ h9 => h9) d_ST_coder_7 ?_
  refine lv_goto (tgt := 14) hx hb d_ST_coder_10 rfl ?_
  have hP9 := hP.sub (ws' := []) [] rfl
  have hD9 := hD.sub (ws' := []) [] (by decide) rfl
  have hK9 := hK.sub (tys' := []) [] rfl
  refine W.widen (k := 0) (n := 0) (Nat.le_of_ble_eq_true rfl) (Nat.le_of_ble_eq_true rfl) ?_
  exact W.zret (v := 0) hx hb hr (by decide) (fun t ht hW => ⟨⟨0, (), rfl, rfl, ⟨by rw [ht]; exact hP9, va_K.moved hW.alike hK9, hD9⟩⟩, hS.F ht⟩) hS.2.2 d_ST_coder_14
set_option maxHeartbeats 1000000 in
set_option maxRecDepth 100000 in
theorem k_ST_isLatin1 (l : Launch) (dC : Nat → ClassId) (dI : Nat → Nat → Nat) (sz : Nat) (em : Nat) (aK : Nat → Nat) (aV : Nat → Nat) : Met l y_ST_isLatin1 ws_ST_isLatin1 ({ frames := 0, cells := 0, slots := 0, locals := 0 }) (va_Pc [.ref (aK 0)] (fun U => U.heap.size = sz ∧ va_P (dC, dI) vwCl [] U.heap ∧ va_K (dC, dI) vwCl [] U ∧ va_D (fun _ => True) [] ∧ EX em aK aV (va_A [] sz) U U.heap)) (va_Qi (fun (r : Int32) (u : Unit) => r = 1) (fun u t => va_P (dC, dI) vwCl [] t.heap ∧ va_K (dC, dI) vwCl [] t ∧ va_D (va_A [] sz) []) (va_A [] sz)) 0 0 (va_A [] sz) := by
  refine Met.ofW (cc := c_ST_isLatin1) (maxL := 1) (ret := (some .boolean)) (by decide) rfl ?_
  intro p e s m args below meth c s₁ B hml hv
  obtain ⟨rfl, hsz, hP, hK, hD0, hE⟩ := hv
  have hx := B.exec
  have hb := B.bytes
  have hr := B.returns
  have hts := atoms_spec (ws := ws_ST_isLatin1) B.pre
  have htb := fun w (h : w ∈ TBL) => hts w (List.mem_cons_of_mem _ h)
  have hown : s.vm.findClass R_ST = some m.cls := findClass_of_methodNamed B.named
  have hlocks := B.notSynchronized
  subst hsz
  have hD := hD0.self (sz := s.heap.size)
  generalize hAe : va_A [] s.heap.size = A at hD hE ⊢
  have hA : ∀ q : Nat, s.heap.size ≤ q → A q := fun q h => by rw [← hAe]; exact Or.inr h
  have hS : va_S A s.heap s.heap [] := va_S.rf
  have hP : va_P (dC, dI) vwCl [] s.heap := hP
  have hl := lv_entry ([.ref (aK 0)]) (n := 1) (Nat.le_of_ble_eq_true rfl)
  rw [lg_entry_eq]
  generalize (lg_sl ([.ref (aK 0)]) ++ List.replicate (1 - (lg_sl ([.ref (aK 0)])).length) Slot.unset).toArray = ls at hl ⊢
  have hl : lv_has ls 1 [(0, .ref (aK 0))] := hl
  refine va_gets hx hb hE.2.2.1 hS hown (htb _ m_289) (fun _ h9 => h9) d_ST_isLatin1_0 ?_
  refine lv_if_eq (tgt := 17) hx hb d_ST_isLatin1_3 rfl (fun h9 => absurd h9 (by decide)) (fun _ => ?_)
  refine lv_aload_n hx hb d_ST_isLatin1_6 rfl (lv_at hl 0 rfl) ?_
  refine vk_getf hx hb (hE.2.2.2.2.2.1.1 0 (by decide)).2.1 hS hown (htb _ m_324) (fun _ h9 => h9) d_ST_isLatin1_7 ?_
  refine lv_if_ne (tgt := 17) hx hb d_ST_isLatin1_10 rfl (fun h9 => absurd (rfl) h9) (fun _ => ?_)
  refine lv_iconst (v := 1) hx hb d_ST_isLatin1_13 (by decide) ?_
  refine lv_goto (tgt := 18) hx hb d_ST_isLatin1_14 rfl ?_
  have hP9 := hP.sub (ws' := []) [] rfl
  have hD9 := hD.sub (ws' := []) [] (by decide) rfl
  have hK9 := hK.sub (tys' := []) [] rfl
  refine W.widen (k := 0) (n := 0) (Nat.le_of_ble_eq_true rfl) (Nat.le_of_ble_eq_true rfl) ?_
  exact W.zret (v := 1) hx hb hr (by decide) (fun t ht hW => ⟨⟨1, (), rfl, rfl, ⟨by rw [ht]; exact hP9, va_K.moved hW.alike hK9, hD9⟩⟩, hS.F ht⟩) hS.2.2 d_ST_isLatin1_18
set_option maxHeartbeats 1000000 in
set_option maxRecDepth 100000 in
theorem k_ST_length (l : Launch) (dC : Nat → ClassId) (dI : Nat → Nat → Nat) (sz : Nat) (em : Nat) (aK : Nat → Nat) (aV : Nat → Nat) : Met l y_ST_length ws_ST_length ({ frames := 1, cells := 0, slots := 0, locals := 20 }) (va_Pc [.ref (aK 0)] (fun U => U.heap.size = sz ∧ va_P (dC, dI) vwCl [] U.heap ∧ va_K (dC, dI) vwCl [] U ∧ va_D (fun _ => True) [] ∧ EX em aK aV (va_A [] sz) U U.heap)) (va_Qi (fun (r : Int32) (u : Unit) => r = 5) (fun u t => va_P (dC, dI) vwCl [] t.heap ∧ va_K (dC, dI) vwCl [] t ∧ va_D (va_A [] sz) []) (va_A [] sz)) 0 0 (va_A [] sz) := by
  refine Met.ofW (cc := c_ST_length) (maxL := 1) (ret := (some .int)) (by decide) rfl ?_
  intro p e s m args below meth c s₁ B hml hv
  obtain ⟨rfl, hsz, hP, hK, hD0, hE⟩ := hv
  have hx := B.exec
  have hb := B.bytes
  have hr := B.returns
  have hts := atoms_spec (ws := ws_ST_length) B.pre
  have htb := fun w (h : w ∈ TBL) => hts w (List.mem_cons_of_mem _ h)
  have hown : s.vm.findClass R_ST = some m.cls := findClass_of_methodNamed B.named
  have hlocks := B.notSynchronized
  subst hsz
  have hD := hD0.self (sz := s.heap.size)
  generalize hAe : va_A [] s.heap.size = A at hD hE ⊢
  have hA : ∀ q : Nat, s.heap.size ≤ q → A q := fun q h => by rw [← hAe]; exact Or.inr h
  have hS : va_S A s.heap s.heap [] := va_S.rf
  have hP : va_P (dC, dI) vwCl [] s.heap := hP
  have hl := lv_entry ([.ref (aK 0)]) (n := 1) (Nat.le_of_ble_eq_true rfl)
  rw [lg_entry_eq]
  generalize (lg_sl ([.ref (aK 0)]) ++ List.replicate (1 - (lg_sl ([.ref (aK 0)])).length) Slot.unset).toArray = ls at hl ⊢
  have hl : lv_has ls 1 [(0, .ref (aK 0))] := hl
  refine lv_aload_n hx hb d_ST_length_0 rfl (lv_at hl 0 rfl) ?_
  refine vk_getf hx hb (hE.2.2.2.2.2.1.1 0 (by decide)).2.2.1 hS hown (htb _ m_323) (fun _ h9 => h9) d_ST_length_1 ?_
  refine va_tlen (v := 5) hx hb (hE.2.2.2.2.2.1.1 0 (by decide)).2.2.2 hS rfl d_ST_length_4 ?_
  refine lv_aload_n hx hb d_ST_length_5 rfl (lv_at hl 0 rfl) ?_
  have hPc := hP.sub (ws' := []) [] rfl
  have hDc := hD.sub (ws' := []) [] (by decide) rfl
  have hKc := hK.sub (tys' := []) [] rfl
  have hFc := va_free (wc := []) hD hS hA [] rfl
  refine va_calli (va_runV (As := []) (rest := [.int 5]) ⟨hx, hb, hml, hown, htb⟩ (k_ST_coder l dC dI _ em aK aV ) (cwV 0 htb (g_V (fun _ h => h) m_456 m_453 m_454 m_455 m_4) rfl rfl rfl (by decide +kernel) ⟨Nat.le_of_ble_eq_true rfl, Nat.le_of_ble_eq_true rfl⟩) ⟨fun a U g mk q => by obtain ⟨q0, q1, qP, qK, qD, z0⟩ := q; exact ⟨q0, q1, qP, va_K.moved (u := U) (U := U.calling g mk a) (Vm.Alike.refl U.vm) qK, qD, EX.same (U := U) (U' := U.calling g mk a) rfl z0⟩, vk_recv hE.2.2.2.2.2.1 (i := 0) (by decide) hS, fun U hU hW => ⟨rfl, by rw [hU], by rw [hU]; exact hPc, va_K.moved hW.alike hKc, hDc.weaken (fun _ _ _ _ => trivial), by rw [hU]; exact EX.warm hW ((hE.kept (fun a h1 h2 => hS.2.1 a h1 h2)).narrow hFc)⟩⟩ rfl rfl hl.1 rfl (lv_room (Nat.le_of_ble_eq_true rfl)) d_ST_length_6 ⟨Nat.le_of_ble_eq_true rfl, Nat.le_of_ble_eq_true rfl⟩) hS (fun q _ h => hFc q h) hFc (fun r2 u1 t H1 locs ht hvm hw3 hB hz1 hk1 hS => ?_)
  obtain ⟨hP1, hK1, hD1⟩ := hB
  rw [ht] at hP1
  have hK1 := va_K.moved hvm.symm hK1
  have hw3 : r2 = 0 := hw3
  obtain ⟨hP, hD⟩ := va_join (wr := []) (w1 := []) hP hD [] [] rfl rfl (by decide) (by decide) hk1 hFc hP1 hD1
  have hK := (hK.sub (tys' := []) [] rfl).app hK1
  generalize H1 = H at hP hS ⊢
  have hP : va_P (dC, dI) vwCl [] H := hP
  have hD : va_D A [] := hD
  have hK : va_K (dC, dI) vwCl [] s := hK
  obtain rfl := hw3
  refine lv_ishr hx hb d_ST_length_9 ?_
  have hP9 := hP.sub (ws' := []) [] rfl
  have hD9 := hD.sub (ws' := []) [] (by decide) rfl
  have hK9 := hK.sub (tys' := []) [] rfl
  refine W.widen (k := 0) (n := 0) (Nat.le_of_ble_eq_true rfl) (Nat.le_of_ble_eq_true rfl) ?_
  exact W.iret (v := ((5 : Int32) >>> ((0 : Int32) &&& 31))) hx hb hr (fun t ht hW => ⟨⟨((5 : Int32) >>> ((0 : Int32) &&& 31)), (), rfl, by decide, ⟨by rw [ht]; exact hP9, va_K.moved hW.alike hK9, hD9⟩⟩, hS.F ht⟩) hS.2.2 d_ST_length_10
set_option maxHeartbeats 1000000 in
set_option maxRecDepth 100000 in
theorem k_PC_checkIndex_n (l : Launch) (dC : Nat → ClassId) (dI : Nat → Nat → Nat) (sz : Nat) (fm : Nat) : Met l y_PC_checkIndex ws_PC_checkIndex ({ frames := 0, cells := 0, slots := 0, locals := 0 }) (va_Pc [.int 0, .int 5, .null] (fun U => U.heap.size = sz ∧ va_P (dC, dI) vwCl [] U.heap ∧ va_K (dC, dI) vwCl [] U ∧ va_D (fun _ => True) [])) (va_Qi (fun (r : Int32) (u : Unit) => r = 0) (fun u t => va_P (dC, dI) vwCl [] t.heap ∧ va_K (dC, dI) vwCl [] t ∧ va_D (va_A [] sz) []) (va_A [] sz)) 0 0 (va_A [] sz) := by
  refine Met.ofW (cc := c_PC_checkIndex) (maxL := 3) (ret := (some .int)) (by decide) rfl ?_
  intro p e s m args below meth c s₁ B hml hv
  obtain ⟨rfl, hsz, hP, hK, hD0⟩ := hv
  have hx := B.exec
  have hb := B.bytes
  have hr := B.returns
  have hts := atoms_spec (ws := ws_PC_checkIndex) B.pre
  have htb := fun w (h : w ∈ TBL) => hts w (List.mem_cons_of_mem _ h)
  have hown : s.vm.findClass R_PC = some m.cls := findClass_of_methodNamed B.named
  have hlocks := B.notSynchronized
  subst hsz
  have hD := hD0.self (sz := s.heap.size)
  generalize hAe : va_A [] s.heap.size = A at hD ⊢
  have hA : ∀ q : Nat, s.heap.size ≤ q → A q := fun q h => by rw [← hAe]; exact Or.inr h
  have hS : va_S A s.heap s.heap [] := va_S.rf
  have hP : va_P (dC, dI) vwCl [] s.heap := hP
  have hl := lv_entry ([.int 0, .int 5, .null]) (n := 3) (Nat.le_of_ble_eq_true rfl)
  rw [lg_entry_eq]
  generalize (lg_sl ([.int 0, .int 5, .null]) ++ List.replicate (3 - (lg_sl ([.int 0, .int 5, .null])).length) Slot.unset).toArray = ls at hl ⊢
  have hl : lv_has ls 3 [(0, .int 0), (1, .int 5), (2, .null)] := hl
  refine lv_iload_n hx hb d_PC_checkIndex_0 rfl (lv_at hl 0 rfl) ?_
  refine lv_if_lt (tgt := 9) hx hb d_PC_checkIndex_1 rfl (fun h9 => absurd h9 (by decide)) (fun _ => ?_)
  refine lv_iload_n hx hb d_PC_checkIndex_4 rfl (lv_at hl 0 rfl) ?_
  refine lv_iload_n hx hb d_PC_checkIndex_5 rfl (lv_at hl 1 rfl) ?_
  refine lv_icmp_lt (tgt := 16) hx hb d_PC_checkIndex_6 rfl (fun _ => ?_) (fun h9 => absurd (by decide) h9)
  refine lv_iload_n hx hb d_PC_checkIndex_16 rfl (lv_at hl 0 rfl) ?_
  have hP9 := hP.sub (ws' := []) [] rfl
  have hD9 := hD.sub (ws' := []) [] (by decide) rfl
  have hK9 := hK.sub (tys' := []) [] rfl
  refine W.widen (k := 0) (n := 0) (Nat.le_of_ble_eq_true rfl) (Nat.le_of_ble_eq_true rfl) ?_
  exact W.iret (v := 0) hx hb hr (fun t ht hW => ⟨⟨0, (), rfl, rfl, ⟨by rw [ht]; exact hP9, va_K.moved hW.alike hK9, hD9⟩⟩, hS.F ht⟩) hS.2.2 d_PC_checkIndex_17
set_option maxHeartbeats 1000000 in
set_option maxRecDepth 100000 in
theorem k_PC_checkIndex_r (l : Launch) (dC : Nat → ClassId) (dI : Nat → Nat → Nat) (sz : Nat) (fm : Nat) : Met l y_PC_checkIndex ws_PC_checkIndex ({ frames := 0, cells := 0, slots := 0, locals := 0 }) (va_Pc [.int 0, .int 5, .ref fm] (fun U => U.heap.size = sz ∧ va_P (dC, dI) vwCl [] U.heap ∧ va_K (dC, dI) vwCl [] U ∧ va_D (fun _ => True) [])) (va_Qi (fun (r : Int32) (u : Unit) => r = 0) (fun u t => va_P (dC, dI) vwCl [] t.heap ∧ va_K (dC, dI) vwCl [] t ∧ va_D (va_A [] sz) []) (va_A [] sz)) 0 0 (va_A [] sz) := by
  refine Met.ofW (cc := c_PC_checkIndex) (maxL := 3) (ret := (some .int)) (by decide) rfl ?_
  intro p e s m args below meth c s₁ B hml hv
  obtain ⟨rfl, hsz, hP, hK, hD0⟩ := hv
  have hx := B.exec
  have hb := B.bytes
  have hr := B.returns
  have hts := atoms_spec (ws := ws_PC_checkIndex) B.pre
  have htb := fun w (h : w ∈ TBL) => hts w (List.mem_cons_of_mem _ h)
  have hown : s.vm.findClass R_PC = some m.cls := findClass_of_methodNamed B.named
  have hlocks := B.notSynchronized
  subst hsz
  have hD := hD0.self (sz := s.heap.size)
  generalize hAe : va_A [] s.heap.size = A at hD ⊢
  have hA : ∀ q : Nat, s.heap.size ≤ q → A q := fun q h => by rw [← hAe]; exact Or.inr h
  have hS : va_S A s.heap s.heap [] := va_S.rf
  have hP : va_P (dC, dI) vwCl [] s.heap := hP
  have hl := lv_entry ([.int 0, .int 5, .ref fm]) (n := 3) (Nat.le_of_ble_eq_true rfl)
  rw [lg_entry_eq]
  generalize (lg_sl ([.int 0, .int 5, .ref fm]) ++ List.replicate (3 - (lg_sl ([.int 0, .int 5, .ref fm])).length) Slot.unset).toArray = ls at hl ⊢
  have hl : lv_has ls 3 [(0, .int 0), (1, .int 5), (2, .ref fm)] := hl
  refine lv_iload_n hx hb d_PC_checkIndex_0 rfl (lv_at hl 0 rfl) ?_
  refine lv_if_lt (tgt := 9) hx hb d_PC_checkIndex_1 rfl (fun h9 => absurd h9 (by decide)) (fun _ => ?_)
  refine lv_iload_n hx hb d_PC_checkIndex_4 rfl (lv_at hl 0 rfl) ?_
  refine lv_iload_n hx hb d_PC_checkIndex_5 rfl (lv_at hl 1 rfl) ?_
  refine lv_icmp_lt (tgt := 16) hx hb d_PC_checkIndex_6 rfl (fun _ => ?_) (fun h9 => absurd (by decide) h9)
  refine lv_iload_n hx hb d_PC_checkIndex_16 rfl (lv_at hl 0 rfl) ?_
  have hP9 := hP.sub (ws' := []) [] rfl
  have hD9 := hD.sub (ws' := []) [] (by decide) rfl
  have hK9 := hK.sub (tys' := []) [] rfl
  refine W.widen (k := 0) (n := 0) (Nat.le_of_ble_eq_true rfl) (Nat.le_of_ble_eq_true rfl) ?_
  exact W.iret (v := 0) hx hb hr (fun t ht hW => ⟨⟨0, (), rfl, rfl, ⟨by rw [ht]; exact hP9, va_K.moved hW.alike hK9, hD9⟩⟩, hS.F ht⟩) hS.2.2 d_PC_checkIndex_17
set_option maxHeartbeats 1000000 in
set_option maxRecDepth 100000 in
theorem k_ST_checkIndex (l : Launch) (dC : Nat → ClassId) (dI : Nat → Nat → Nat) (sz : Nat) (em : Nat) (aK : Nat → Nat) (aV : Nat → Nat) : Met l y_ST_checkIndex ws_ST_checkIndex ({ frames := 1, cells := 0, slots := 0, locals := 22 }) (va_Pc [.int 0, .int 5] (fun U => U.heap.size = sz ∧ va_P (dC, dI) vwCl [] U.heap ∧ va_K (dC, dI) vwCl [] U ∧ va_D (fun _ => True) [] ∧ EX em aK aV (va_A [] sz) U U.heap)) (va_Qv (fun (u : Unit) => True) (fun u t => va_P (dC, dI) vwCl [] t.heap ∧ va_K (dC, dI) vwCl [] t ∧ va_D (va_A [] sz) []) (va_A [] sz)) 0 0 (va_A [] sz) := by
  refine Met.ofW (cc := c_ST_checkIndex) (maxL := 2) (ret := none) (by decide) rfl ?_
  intro p e s m args below meth c s₁ B hml hv
  obtain ⟨rfl, hsz, hP, hK, hD0, hE⟩ := hv
  have hx := B.exec
  have hb := B.bytes
  have hr := B.returns
  have hts := atoms_spec (ws := ws_ST_checkIndex) B.pre
  have htb := fun w (h : w ∈ TBL) => hts w (List.mem_cons_of_mem _ h)
  have hown : s.vm.findClass R_ST = some m.cls := findClass_of_methodNamed B.named
  have hlocks := B.notSynchronized
  subst hsz
  have hD := hD0.self (sz := s.heap.size)
  generalize hAe : va_A [] s.heap.size = A at hD hE ⊢
  have hA : ∀ q : Nat, s.heap.size ≤ q → A q := fun q h => by rw [← hAe]; exact Or.inr h
  have hS : va_S A s.heap s.heap [] := va_S.rf
  have hP : va_P (dC, dI) vwCl [] s.heap := hP
  have hl := lv_entry ([.int 0, .int 5]) (n := 2) (Nat.le_of_ble_eq_true rfl)
  rw [lg_entry_eq]
  generalize (lg_sl ([.int 0, .int 5]) ++ List.replicate (2 - (lg_sl ([.int 0, .int 5])).length) Slot.unset).toArray = ls at hl ⊢
  have hl : lv_has ls 2 [(0, .int 0), (1, .int 5)] := hl
  refine lv_iload_n hx hb d_ST_checkIndex_0 rfl (lv_at hl 0 rfl) ?_
  refine lv_iload_n hx hb d_ST_checkIndex_1 rfl (lv_at hl 1 rfl) ?_
  rcases hE.2.2.2.2.1 with hz | ⟨fm, hz⟩
  · refine va_gets hx hb hz hS hown (htb _ m_305) (fun _ h9 => h9) d_ST_checkIndex_2 ?_
    have hPc := hP.sub (ws' := []) [] rfl
    have hDc := hD.sub (ws' := []) [] (by decide) rfl
    have hKc := hK.sub (tys' := []) [] rfl
    have hFc := va_free (wc := []) hD hS hA [] rfl
    refine va_calli (va_runS (As := [.int 0, .int 5, .null]) (rest := []) ⟨hx, hb, hml, hown, htb⟩ (k_PC_checkIndex_n l dC dI _ 0 ) (va_cwS 3 htb (g_S (fun _ h => h) m_368 m_366 m_367 m_17) rfl rfl rfl (by decide +kernel) ⟨Nat.le_of_ble_eq_true rfl, Nat.le_of_ble_eq_true rfl⟩) ⟨fun a U g mk q => by obtain ⟨q0, q1, qP, qK, qD⟩ := q; exact ⟨q0, q1, qP, va_K.moved (u := U) (U := U.calling g mk a) (Vm.Alike.refl U.vm) qK, qD⟩, fun U hU hW => ⟨rfl, by rw [hU], by rw [hU]; exact hPc, va_K.moved hW.alike hKc, hDc.weaken (fun _ _ _ _ => trivial)⟩⟩ rfl rfl hl.1 rfl (lv_room (Nat.le_of_ble_eq_true rfl)) d_ST_checkIndex_5 ⟨Nat.le_of_ble_eq_true rfl, Nat.le_of_ble_eq_true rfl⟩) hS (fun q _ h => hFc q h) hFc (fun r2 u1 t H1 locs ht hvm hw3 hB hz1 hk1 hS => ?_)
    obtain ⟨hP1, hK1, hD1⟩ := hB
    rw [ht] at hP1
    have hK1 := va_K.moved hvm.symm hK1
    have hw3 : r2 = 0 := hw3
    obtain ⟨hP, hD⟩ := va_join (wr := []) (w1 := []) hP hD [] [] rfl rfl (by decide) (by decide) hk1 hFc hP1 hD1
    have hK := (hK.sub (tys' := []) [] rfl).app hK1
    generalize H1 = H at hP hS ⊢
    have hP : va_P (dC, dI) vwCl [] H := hP
    have hD : va_D A [] := hD
    have hK : va_K (dC, dI) vwCl [] s := hK
    refine lv_pop hx hb d_ST_checkIndex_8 rfl ?_
    have hP9 := hP.sub (ws' := []) [] rfl
    have hD9 := hD.sub (ws' := []) [] (by decide) rfl
    have hK9 := hK.sub (tys' := []) [] rfl
    refine W.widen (k := 0) (n := 0) (Nat.le_of_ble_eq_true rfl) (Nat.le_of_ble_eq_true rfl) ?_
    exact W.vret hx hb hr (fun t ht hW => ⟨⟨(), rfl, trivial, ⟨by rw [ht]; exact hP9, va_K.moved hW.alike hK9, hD9⟩⟩, hS.F ht⟩) hS.2.2 d_ST_checkIndex_9
  · refine va_gets hx hb hz hS hown (htb _ m_305) (fun _ h9 => h9) d_ST_checkIndex_2 ?_
    have hPc := hP.sub (ws' := []) [] rfl
    have hDc := hD.sub (ws' := []) [] (by decide) rfl
    have hKc := hK.sub (tys' := []) [] rfl
    have hFc := va_free (wc := []) hD hS hA [] rfl
    refine va_calli (va_runS (As := [.int 0, .int 5, .ref fm]) (rest := []) ⟨hx, hb, hml, hown, htb⟩ (k_PC_checkIndex_r l dC dI _ fm ) (va_cwS 3 htb (g_S (fun _ h => h) m_368 m_366 m_367 m_17) rfl rfl rfl (by decide +kernel) ⟨Nat.le_of_ble_eq_true rfl, Nat.le_of_ble_eq_true rfl⟩) ⟨fun a U g mk q => by obtain ⟨q0, q1, qP, qK, qD⟩ := q; exact ⟨q0, q1, qP, va_K.moved (u := U) (U := U.calling g mk a) (Vm.Alike.refl U.vm) qK, qD⟩, fun U hU hW => ⟨rfl, by rw [hU], by rw [hU]; exact hPc, va_K.moved hW.alike hKc, hDc.weaken (fun _ _ _ _ => trivial)⟩⟩ rfl rfl hl.1 rfl (lv_room (Nat.le_of_ble_eq_true rfl)) d_ST_checkIndex_5 ⟨Nat.le_of_ble_eq_true rfl, Nat.le_of_ble_eq_true rfl⟩) hS (fun q _ h => hFc q h) hFc (fun r2 u1 t H1 locs ht hvm hw3 hB hz1 hk1 hS => ?_)
    obtain ⟨hP1, hK1, hD1⟩ := hB
    rw [ht] at hP1
    have hK1 := va_K.moved hvm.symm hK1
    have hw3 : r2 = 0 := hw3
    obtain ⟨hP, hD⟩ := va_join (wr := []) (w1 := []) hP hD [] [] rfl rfl (by decide) (by decide) hk1 hFc hP1 hD1
    have hK := (hK.sub (tys' := []) [] rfl).app hK1
    generalize H1 = H at hP hS ⊢
    have hP : va_P (dC, dI) vwCl [] H := hP
    have hD : va_D A [] := hD
    have hK : va_K (dC, dI) vwCl [] s := hK
    refine lv_pop hx hb d_ST_checkIndex_8 rfl ?_
    have hP9 := hP.sub (ws' := []) [] rfl
    have hD9 := hD.sub (ws' := []) [] (by decide) rfl
    have hK9 := hK.sub (tys' := []) [] rfl
    refine W.widen (k := 0) (n := 0) (Nat.le_of_ble_eq_true rfl) (Nat.le_of_ble_eq_true rfl) ?_
    exact W.vret hx hb hr (fun t ht hW => ⟨⟨(), rfl, trivial, ⟨by rw [ht]; exact hP9, va_K.moved hW.alike hK9, hD9⟩⟩, hS.F ht⟩) hS.2.2 d_ST_checkIndex_9
set_option maxHeartbeats 1000000 in
set_option maxRecDepth 100000 in
theorem k_LT_charAt (l : Launch) (dC : Nat → ClassId) (dI : Nat → Nat → Nat) (sz : Nat) (em : Nat) (aK : Nat → Nat) (aV : Nat → Nat) : Met l y_LT_charAt ws_LT_charAt ({ frames := 2, cells := 0, slots := 0, locals := 43 }) (va_Pc [.ref (aV 0), .int 0] (fun U => U.heap.size = sz ∧ va_P (dC, dI) vwCl [] U.heap ∧ va_K (dC, dI) vwCl [] U ∧ va_D (fun _ => True) [] ∧ EX em aK aV (va_A [] sz) U U.heap)) (va_Qi (fun (r : Int32) (u : Unit) => r = 102) (fun u t => va_P (dC, dI) vwCl [] t.heap ∧ va_K (dC, dI) vwCl [] t ∧ va_D (va_A [] sz) []) (va_A [] sz)) 0 0 (va_A [] sz) := by
  refine Met.ofW (cc := c_LT_charAt) (maxL := 2) (ret := (some .char)) (by decide) rfl ?_
  intro p e s m args below meth c s₁ B hml hv
  obtain ⟨rfl, hsz, hP, hK, hD0, hE⟩ := hv
  have hx := B.exec
  have hb := B.bytes
  have hr := B.returns
  have hts := atoms_spec (ws := ws_LT_charAt) B.pre
  have htb := fun w (h : w ∈ TBL) => hts w (List.mem_cons_of_mem _ h)
  have hown : s.vm.findClass R_LT = some m.cls := findClass_of_methodNamed B.named
  have hlocks := B.notSynchronized
  subst hsz
  have hD := hD0.self (sz := s.heap.size)
  generalize hAe : va_A [] s.heap.size = A at hD hE ⊢
  have hA : ∀ q : Nat, s.heap.size ≤ q → A q := fun q h => by rw [← hAe]; exact Or.inr h
  have hS : va_S A s.heap s.heap [] := va_S.rf
  have hP : va_P (dC, dI) vwCl [] s.heap := hP
  have hl := lv_entry ([.ref (aV 0), .int 0]) (n := 2) (Nat.le_of_ble_eq_true rfl)
  rw [lg_entry_eq]
  generalize (lg_sl ([.ref (aV 0), .int 0]) ++ List.replicate (2 - (lg_sl ([.ref (aV 0), .int 0])).length) Slot.unset).toArray = ls at hl ⊢
  have hl : lv_has ls 2 [(0, .ref (aV 0)), (1, .int 0)] := hl
  refine lv_iload_n hx hb d_LT_charAt_0 rfl (lv_at hl 1 rfl) ?_
  refine lv_aload_n hx hb d_LT_charAt_1 rfl (lv_at hl 0 rfl) ?_
  refine va_tlen (v := 5) hx hb (hE.2.2.2.2.2.1.1 0 (by decide)).2.2.2 hS rfl d_LT_charAt_2 ?_
  have hPc := hP.sub (ws' := []) [] rfl
  have hDc := hD.sub (ws' := []) [] (by decide) rfl
  have hKc := hK.sub (tys' := []) [] rfl
  have hFc := va_free (wc := []) hD hS hA [] rfl
  refine va_callv (va_runS (As := [.int 0, .int 5]) (rest := []) ⟨hx, hb, hml, hown, htb⟩ (k_ST_checkIndex l dC dI _ em aK aV ) (va_cwS 2 htb (g_S (fun _ h => h) m_365 m_468 m_364 m_4) rfl rfl rfl (by decide +kernel) ⟨Nat.le_of_ble_eq_true rfl, Nat.le_of_ble_eq_true rfl⟩) ⟨fun a U g mk q => by obtain ⟨q0, q1, qP, qK, qD, z0⟩ := q; exact ⟨q0, q1, qP, va_K.moved (u := U) (U := U.calling g mk a) (Vm.Alike.refl U.vm) qK, qD, EX.same (U := U) (U' := U.calling g mk a) rfl z0⟩, fun U hU hW => ⟨rfl, by rw [hU], by rw [hU]; exact hPc, va_K.moved hW.alike hKc, hDc.weaken (fun _ _ _ _ => trivial), by rw [hU]; exact EX.warm hW ((hE.kept (fun a h1 h2 => hS.2.1 a h1 h2)).narrow hFc)⟩⟩ rfl rfl hl.1 rfl (lv_room (Nat.le_of_ble_eq_true rfl)) d_LT_charAt_3 ⟨Nat.le_of_ble_eq_true rfl, Nat.le_of_ble_eq_true rfl⟩) hS (fun q _ h => hFc q h) hFc (fun u1 t H1 locs ht hvm hw3 hB hz1 hk1 hS => ?_)
  obtain ⟨hP1, hK1, hD1⟩ := hB
  rw [ht] at hP1
  have hK1 := va_K.moved hvm.symm hK1
  have hw3 : True := hw3
  obtain ⟨hP, hD⟩ := va_join (wr := []) (w1 := []) hP hD [] [] rfl rfl (by decide) (by decide) hk1 hFc hP1 hD1
  have hK := (hK.sub (tys' := []) [] rfl).app hK1
  generalize H1 = H at hP hS ⊢
  have hP : va_P (dC, dI) vwCl [] H := hP
  have hD : va_D A [] := hD
  have hK : va_K (dC, dI) vwCl [] s := hK
  refine lv_aload_n hx hb d_LT_charAt_6 rfl (lv_at hl 0 rfl) ?_
  refine lv_iload_n hx hb d_LT_charAt_7 rfl (lv_at hl 1 rfl) ?_
  refine va_tb (v := .int 102) hx hb (hE.2.2.2.2.2.1.1 0 (by decide)).2.2.2 hS (vp_in_iff.mpr (by decide)) rfl d_LT_charAt_8 ?_
  refine lv_sipush (v := 255) hx hb d_LT_charAt_9 (by decide) ?_
  refine lv_iand hx hb d_LT_charAt_12 ?_
  refine lv_i2c hx hb d_LT_charAt_13 rfl ?_
  have hP9 := hP.sub (ws' := []) [] rfl
  have hD9 := hD.sub (ws' := []) [] (by decide) rfl
  have hK9 := hK.sub (tys' := []) [] rfl
  refine W.widen (k := 0) (n := 0) (Nat.le_of_ble_eq_true rfl) (Nat.le_of_ble_eq_true rfl) ?_
  exact W.zret (v := ((((102 : Int32) &&& 255).toUInt32 % 65536).toInt32)) hx hb hr (by decide) (fun t ht hW => ⟨⟨((((102 : Int32) &&& 255).toUInt32 % 65536).toInt32), (), rfl, by decide, ⟨by rw [ht]; exact hP9, va_K.moved hW.alike hK9, hD9⟩⟩, hS.F ht⟩) hS.2.2 d_LT_charAt_14
set_option maxHeartbeats 1000000 in
set_option maxRecDepth 100000 in
theorem k_ST_charAt (l : Launch) (dC : Nat → ClassId) (dI : Nat → Nat → Nat) (sz : Nat) (em : Nat) (aK : Nat → Nat) (aV : Nat → Nat) : Met l y_ST_charAt ws_ST_charAt ({ frames := 3, cells := 0, slots := 0, locals := 64 }) (va_Pc [.ref (aK 0), .int 0] (fun U => U.heap.size = sz ∧ va_P (dC, dI) vwCl [] U.heap ∧ va_K (dC, dI) vwCl [] U ∧ va_D (fun _ => True) [] ∧ EX em aK aV (va_A [] sz) U U.heap)) (va_Qi (fun (r : Int32) (u : Unit) => r = 102) (fun u t => va_P (dC, dI) vwCl [] t.heap ∧ va_K (dC, dI) vwCl [] t ∧ va_D (va_A [] sz) []) (va_A [] sz)) 0 0 (va_A [] sz) := by
  refine Met.ofW (cc := c_ST_charAt) (maxL := 2) (ret := (some .char)) (by decide) rfl ?_
  intro p e s m args below meth c s₁ B hml hv
  obtain ⟨rfl, hsz, hP, hK, hD0, hE⟩ := hv
  have hx := B.exec
  have hb := B.bytes
  have hr := B.returns
  have hts := atoms_spec (ws := ws_ST_charAt) B.pre
  have htb := fun w (h : w ∈ TBL) => hts w (List.mem_cons_of_mem _ h)
  have hown : s.vm.findClass R_ST = some m.cls := findClass_of_methodNamed B.named
  have hlocks := B.notSynchronized
  subst hsz
  have hD := hD0.self (sz := s.heap.size)
  generalize hAe : va_A [] s.heap.size = A at hD hE ⊢
  have hA : ∀ q : Nat, s.heap.size ≤ q → A q := fun q h => by rw [← hAe]; exact Or.inr h
  have hS : va_S A s.heap s.heap [] := va_S.rf
  have hP : va_P (dC, dI) vwCl [] s.heap := hP
  have hl := lv_entry ([.ref (aK 0), .int 0]) (n := 2) (Nat.le_of_ble_eq_true rfl)
  rw [lg_entry_eq]
  generalize (lg_sl ([.ref (aK 0), .int 0]) ++ List.replicate (2 - (lg_sl ([.ref (aK 0), .int 0])).length) Slot.unset).toArray = ls at hl ⊢
  have hl : lv_has ls 2 [(0, .ref (aK 0)), (1, .int 0)] := hl
  refine lv_aload_n hx hb d_ST_charAt_0 rfl (lv_at hl 0 rfl) ?_
  have hPc := hP.sub (ws' := []) [] rfl
  have hDc := hD.sub (ws' := []) [] (by decide) rfl
  have hKc := hK.sub (tys' := []) [] rfl
  have hFc := va_free (wc := []) hD hS hA [] rfl
  refine va_calli (va_runV (As := []) (rest := []) ⟨hx, hb, hml, hown, htb⟩ (k_ST_isLatin1 l dC dI _ em aK aV ) (cwV 0 htb (g_V (fun _ h => h) m_464 m_461 m_462 m_463 m_4) rfl rfl rfl (by decide +kernel) ⟨Nat.le_of_ble_eq_true rfl, Nat.le_of_ble_eq_true rfl⟩) ⟨fun a U g mk q => by obtain ⟨q0, q1, qP, qK, qD, z0⟩ := q; exact ⟨q0, q1, qP, va_K.moved (u := U) (U := U.calling g mk a) (Vm.Alike.refl U.vm) qK, qD, EX.same (U := U) (U' := U.calling g mk a) rfl z0⟩, vk_recv hE.2.2.2.2.2.1 (i := 0) (by decide) hS, fun U hU hW => ⟨rfl, by rw [hU], by rw [hU]; exact hPc, va_K.moved hW.alike hKc, hDc.weaken (fun _ _ _ _ => trivial), by rw [hU]; exact EX.warm hW ((hE.kept (fun a h1 h2 => hS.2.1 a h1 h2)).narrow hFc)⟩⟩ rfl rfl hl.1 rfl (lv_room (Nat.le_of_ble_eq_true rfl)) d_ST_charAt_1 ⟨Nat.le_of_ble_eq_true rfl, Nat.le_of_ble_eq_true rfl⟩) hS (fun q _ h => hFc q h) hFc (fun r2 u1 t H1 locs ht hvm hw3 hB hz1 hk1 hS => ?_)
  obtain ⟨hP1, hK1, hD1⟩ := hB
  rw [ht] at hP1
  have hK1 := va_K.moved hvm.symm hK1
  have hw3 : r2 = 1 := hw3
  obtain ⟨hP, hD⟩ := va_join (wr := []) (w1 := []) hP hD [] [] rfl rfl (by decide) (by decide) hk1 hFc hP1 hD1
  have hK := (hK.sub (tys' := []) [] rfl).app hK1
  generalize H1 = H at hP hS ⊢
  have hP : va_P (dC, dI) vwCl [] H := hP
  have hD : va_D A [] := hD
  have hK : va_K (dC, dI) vwCl [] s := hK
  refine lv_if_eq (tgt := 16) hx hb d_ST_charAt_4 rfl (fun h9 => absurd h9 (by rw [hw3]; decide)) (fun _ => ?_)
  refine lv_aload_n hx hb d_ST_charAt_7 rfl (lv_at hl 0 rfl) ?_
  refine vk_getf hx hb (hE.2.2.2.2.2.1.1 0 (by decide)).2.2.1 hS hown (htb _ m_323) (fun _ h9 => h9) d_ST_charAt_8 ?_
  refine lv_iload_n hx hb d_ST_charAt_11 rfl (lv_at hl 1 rfl) ?_
  have hPc := hP.sub (ws' := []) [] rfl
  have hDc := hD.sub (ws' := []) [] (by decide) rfl
  have hKc := hK.sub (tys' := []) [] rfl
  have hFc := va_free (wc := []) hD hS hA [] rfl
  refine va_calli (va_runS (As := [.ref (aV 0), .int 0]) (rest := []) ⟨hx, hb, hml, hown, htb⟩ (k_LT_charAt l dC dI _ em aK aV ) (va_cwS 2 htb (g_S (fun _ h => h) m_467 m_465 m_466 m_16) rfl rfl rfl (by decide +kernel) ⟨Nat.le_of_ble_eq_true rfl, Nat.le_of_ble_eq_true rfl⟩) ⟨fun a U g mk q => by obtain ⟨q0, q1, qP, qK, qD, z0⟩ := q; exact ⟨q0, q1, qP, va_K.moved (u := U) (U := U.calling g mk a) (Vm.Alike.refl U.vm) qK, qD, EX.same (U := U) (U' := U.calling g mk a) rfl z0⟩, fun U hU hW => ⟨rfl, by rw [hU], by rw [hU]; exact hPc, va_K.moved hW.alike hKc, hDc.weaken (fun _ _ _ _ => trivial), by rw [hU]; exact EX.warm hW ((hE.kept (fun a h1 h2 => hS.2.1 a h1 h2)).narrow hFc)⟩⟩ rfl rfl hl.1 rfl (lv_room (Nat.le_of_ble_eq_true rfl)) d_ST_charAt_12 ⟨Nat.le_of_ble_eq_true rfl, Nat.le_of_ble_eq_true rfl⟩) hS (fun q _ h => hFc q h) hFc (fun r6 u5 t H1 locs ht hvm hw7 hB hz1 hk1 hS => ?_)
  obtain ⟨hP1, hK1, hD1⟩ := hB
  rw [ht] at hP1
  have hK1 := va_K.moved hvm.symm hK1
  have hw7 : r6 = 102 := hw7
  obtain ⟨hP, hD⟩ := va_join (wr := []) (w1 := []) hP hD [] [] rfl rfl (by decide) (by decide) hk1 hFc hP1 hD1
  have hK := (hK.sub (tys' := []) [] rfl).app hK1
  generalize H1 = H at hP hS ⊢
  have hP : va_P (dC, dI) vwCl [] H := hP
  have hD : va_D A [] := hD
  have hK : va_K (dC, dI) vwCl [] s := hK
  obtain rfl := hw7
  have hP9 := hP.sub (ws' := []) [] rfl
  have hD9 := hD.sub (ws' := []) [] (by decide) rfl
  have hK9 := hK.sub (tys' := []) [] rfl
  refine W.widen (k := 0) (n := 0) (Nat.le_of_ble_eq_true rfl) (Nat.le_of_ble_eq_true rfl) ?_
  exact W.zret (v := 102) hx hb hr (by decide) (fun t ht hW => ⟨⟨102, (), rfl, rfl, ⟨by rw [ht]; exact hP9, va_K.moved hW.alike hK9, hD9⟩⟩, hS.F ht⟩) hS.2.2 d_ST_charAt_15
set_option maxHeartbeats 1000000 in
set_option maxRecDepth 100000 in
theorem k0_CU_word (l : Launch) (dC : Nat → ClassId) (dI : Nat → Nat → Nat) (sz : Nat) (cu : Nat) (dl : Nat) (sb : Nat) (em : Nat) (aK : Nat → Nat) (aV : Nat → Nat) : Met l y_CU_word ws_CU_word ({ frames := 4, cells := 0, slots := 0, locals := 85 }) (va_Pc [.ref cu] (fun U => U.heap.size = sz ∧ va_P (dC, dI) vwCl [(cu, .inr (1, [.ref dl, .int 0, .int 0, .ref sb]))] U.heap ∧ va_K (dC, dI) vwCl [] U ∧ va_D (fun _ => True) [(cu, .inr (1, [.ref dl, .int 0, .int 0, .ref sb]))] ∧ EX em aK aV (va_A [(cu, .inr (1, [.ref dl, .int 0, .int 0, .ref sb]))] sz) U U.heap)) (va_Qq (fun (r : Option Nat) (u : Unit) => r = none) (fun u t => va_P (dC, dI) vwCl [(cu, .inr (1, [.ref dl, .int 0, .int 0, .ref sb]))] t.heap ∧ va_K (dC, dI) vwCl [] t ∧ va_D (va_A [(cu, .inr (1, [.ref dl, .int 0, .int 0, .ref sb]))] sz) [(cu, .inr (1, [.ref dl, .int 0, .int 0, .ref sb]))]) (va_A [(cu, .inr (1, [.ref dl, .int 0, .int 0, .ref sb]))] sz)) 0 0 (va_A [(cu, .inr (1, [.ref dl, .int 0, .int 0, .ref sb]))] sz) := by
  refine Met.ofW (cc := c_CU_word) (maxL := 3) (ret := (some (.object "PatchStore$Value"))) (by decide) rfl ?_
  intro p e s m args below meth c s₁ B hml hv
  obtain ⟨rfl, hsz, hP, hK, hD0, hE⟩ := hv
  have hx := B.exec
  have hb := B.bytes
  have hr := B.returns
  have hts := atoms_spec (ws := ws_CU_word) B.pre
  have htb := fun w (h : w ∈ TBL) => hts w (List.mem_cons_of_mem _ h)
  have hown : s.vm.findClass R_CU = some m.cls := findClass_of_methodNamed B.named
  have hlocks := B.notSynchronized
  subst hsz
  have hD := hD0.self (sz := s.heap.size)
  generalize hAe : va_A [(cu, .inr (1, [.ref dl, .int 0, .int 0, .ref sb]))] s.heap.size = A at hD hE ⊢
  have hA : ∀ q : Nat, s.heap.size ≤ q → A q := fun q h => by rw [← hAe]; exact Or.inr h
  have hS : va_S A s.heap s.heap [] := va_S.rf
  have hP : va_P (dC, dI) vwCl [(cu, .inr (1, [.ref dl, .int 0, .int 0, .ref sb]))] s.heap := hP
  have hl := lv_entry ([.ref cu]) (n := 3) (Nat.le_of_ble_eq_true rfl)
  rw [lg_entry_eq]
  generalize (lg_sl ([.ref cu]) ++ List.replicate (3 - (lg_sl ([.ref cu])).length) Slot.unset).toArray = ls at hl ⊢
  have hl : lv_has ls 3 [(0, .ref cu)] := hl
  refine lv_aload_n hx hb d_CU_word_0 rfl (lv_at hl 0 rfl) ?_
  have hPc := hP.sub (ws' := [(cu, .inr (1, [.ref dl, .int 0, .int 0, .ref sb]))]) [0] rfl
  have hDc := hD.sub (ws' := [(cu, .inr (1, [.ref dl, .int 0, .int 0, .ref sb]))]) [0] (by decide) rfl
  have hKc := hK.sub (tys' := []) [] rfl
  have hFc := va_free (wc := [(cu, .inr (1, [.ref dl, .int 0, .int 0, .ref sb]))]) hD hS hA [0] rfl
  refine va_calli (va_runV (As := []) (rest := []) ⟨hx, hb, hml, hown, htb⟩ (k0_CU_ahead l dC dI _ cu dl sb ) (cwV 0 htb (g_V (fun _ h => h) m_187 m_192 m_185 m_186 m_10) rfl rfl rfl (by decide +kernel) ⟨Nat.le_of_ble_eq_true rfl, Nat.le_of_ble_eq_true rfl⟩) ⟨fun a U g mk q => by obtain ⟨q0, q1, qP, qK, qD⟩ := q; exact ⟨q0, q1, qP, va_K.moved (u := U) (U := U.calling g mk a) (Vm.Alike.refl U.vm) qK, qD⟩, va_recv hK hP (ci := 1) rfl (q0 := 0) rfl, fun U hU hW => ⟨rfl, by rw [hU], by rw [hU]; exact hPc, va_K.moved hW.alike hKc, hDc.weaken (fun _ _ _ _ => trivial)⟩⟩ rfl rfl hl.1 rfl (lv_room (Nat.le_of_ble_eq_true rfl)) d_CU_word_1 ⟨Nat.le_of_ble_eq_true rfl, Nat.le_of_ble_eq_true rfl⟩) hS (fun q _ h => hFc q h) hFc (fun r2 u1 t H1 locs ht hvm hw3 hB hz1 hk1 hS => ?_)
  obtain ⟨hP1, hK1, hD1⟩ := hB
  rw [ht] at hP1
  have hK1 := va_K.moved hvm.symm hK1
  have hw3 : r2 = 0 := hw3
  obtain ⟨hP, hD⟩ := va_join (wr := []) (w1 := [(cu, .inr (1, [.ref dl, .int 0, .int 0, .ref sb]))]) hP hD [0] [] rfl rfl (by decide) (by decide) hk1 hFc hP1 hD1
  have hK := (hK.sub (tys' := []) [] rfl).app hK1
  generalize H1 = H at hP hS ⊢
  have hP : va_P (dC, dI) vwCl [(cu, .inr (1, [.ref dl, .int 0, .int 0, .ref sb]))] H := hP
  have hD : va_D A [(cu, .inr (1, [.ref dl, .int 0, .int 0, .ref sb]))] := hD
  have hK : va_K (dC, dI) vwCl [] s := hK
  refine lv_bipush (v := 110) hx hb d_CU_word_4 (by decide) ?_
  refine lv_icmp_ne (tgt := 14) hx hb d_CU_word_6 rfl (fun _ => ?_) (fun h9 => absurd h9 (by rw [hw3]; decide))
  refine lv_aload_n hx hb d_CU_word_14 rfl (lv_at hl 0 rfl) ?_
  have hPc := hP.sub (ws' := [(cu, .inr (1, [.ref dl, .int 0, .int 0, .ref sb]))]) [0] rfl
  have hDc := hD.sub (ws' := [(cu, .inr (1, [.ref dl, .int 0, .int 0, .ref sb]))]) [0] (by decide) rfl
  have hKc := hK.sub (tys' := []) [] rfl
  have hFc := va_free (wc := [(cu, .inr (1, [.ref dl, .int 0, .int 0, .ref sb]))]) hD hS hA [0] rfl
  refine va_calli (va_runV (As := []) (rest := []) ⟨hx, hb, hml, hown, htb⟩ (k0_CU_ahead l dC dI _ cu dl sb ) (cwV 0 htb (g_V (fun _ h => h) m_187 m_192 m_185 m_186 m_10) rfl rfl rfl (by decide +kernel) ⟨Nat.le_of_ble_eq_true rfl, Nat.le_of_ble_eq_true rfl⟩) ⟨fun a U g mk q => by obtain ⟨q0, q1, qP, qK, qD⟩ := q; exact ⟨q0, q1, qP, va_K.moved (u := U) (U := U.calling g mk a) (Vm.Alike.refl U.vm) qK, qD⟩, va_recv hK hP (ci := 1) rfl (q0 := 0) rfl, fun U hU hW => ⟨rfl, by rw [hU], by rw [hU]; exact hPc, va_K.moved hW.alike hKc, hDc.weaken (fun _ _ _ _ => trivial)⟩⟩ rfl rfl hl.1 rfl (lv_room (Nat.le_of_ble_eq_true rfl)) d_CU_word_15 ⟨Nat.le_of_ble_eq_true rfl, Nat.le_of_ble_eq_true rfl⟩) hS (fun q _ h => hFc q h) hFc (fun r6 u5 t H1 locs ht hvm hw7 hB hz1 hk1 hS => ?_)
  obtain ⟨hP1, hK1, hD1⟩ := hB
  rw [ht] at hP1
  have hK1 := va_K.moved hvm.symm hK1
  have hw7 : r6 = 0 := hw7
  obtain ⟨hP, hD⟩ := va_join (wr := []) (w1 := [(cu, .inr (1, [.ref dl, .int 0, .int 0, .ref sb]))]) hP hD [0] [] rfl rfl (by decide) (by decide) hk1 hFc hP1 hD1
  have hK := (hK.sub (tys' := []) [] rfl).app hK1
  generalize H1 = H at hP hS ⊢
  have hP : va_P (dC, dI) vwCl [(cu, .inr (1, [.ref dl, .int 0, .int 0, .ref sb]))] H := hP
  have hD : va_D A [(cu, .inr (1, [.ref dl, .int 0, .int 0, .ref sb]))] := hD
  have hK : va_K (dC, dI) vwCl [] s := hK
  refine lv_bipush (v := 116) hx hb d_CU_word_18 (by decide) ?_
  refine lv_icmp_ne (tgt := 28) hx hb d_CU_word_20 rfl (fun _ => ?_) (fun h9 => absurd h9 (by rw [hw7]; decide))
  refine va_ldcS hx hb hown hE.2.2.2.2.2.2 d_CU_word_28 ?_
  refine lv_astore_n hx hb d_CU_word_30 rfl hl (by decide) rfl (fun ls hl => ?_)
  have hl : lv_has ls 3 [(1, .ref (aK 0)), (0, .ref cu)] := hl
  refine lv_iconst (v := 0) hx hb d_CU_word_31 (by decide) ?_
  refine lv_istore_n hx hb d_CU_word_32 rfl hl (by decide) rfl (fun ls hl => ?_)
  have hl : lv_has ls 3 [(2, .int 0), (1, .ref (aK 0)), (0, .ref cu)] := hl
  refine lv_iload_n hx hb d_CU_word_33 rfl (lv_at hl 0 rfl) ?_
  refine lv_aload_n hx hb d_CU_word_34 rfl (lv_at hl 1 rfl) ?_
  have hPc := hP.sub (ws' := []) [] rfl
  have hDc := hD.sub (ws' := []) [] (by decide) rfl
  have hKc := hK.sub (tys' := []) [] rfl
  have hFc := va_free (wc := []) hD hS hA [] rfl
  refine va_calli (va_runV (As := []) (rest := [.int 0]) ⟨hx, hb, hml, hown, htb⟩ (k_ST_length l dC dI _ em aK aV ) (cwV 0 htb (g_V (fun _ h => h) m_452 m_449 m_450 m_451 m_4) rfl rfl rfl (by decide +kernel) ⟨Nat.le_of_ble_eq_true rfl, Nat.le_of_ble_eq_true rfl⟩) ⟨fun a U g mk q => by obtain ⟨q0, q1, qP, qK, qD, z0⟩ := q; exact ⟨q0, q1, qP, va_K.moved (u := U) (U := U.calling g mk a) (Vm.Alike.refl U.vm) qK, qD, EX.same (U := U) (U' := U.calling g mk a) rfl z0⟩, vk_recv hE.2.2.2.2.2.1 (i := 0) (by decide) hS, fun U hU hW => ⟨rfl, by rw [hU], by rw [hU]; exact hPc, va_K.moved hW.alike hKc, hDc.weaken (fun _ _ _ _ => trivial), by rw [hU]; exact EX.warm hW ((hE.kept (fun a h1 h2 => hS.2.1 a h1 h2)).narrow hFc)⟩⟩ rfl rfl hl.1 rfl (lv_room (Nat.le_of_ble_eq_true rfl)) d_CU_word_35 ⟨Nat.le_of_ble_eq_true rfl, Nat.le_of_ble_eq_true rfl⟩) hS (fun q _ h => hFc q h) hFc (fun r10 u9 t H1 locs ht hvm hw11 hB hz1 hk1 hS => ?_)
  obtain ⟨hP1, hK1, hD1⟩ := hB
  rw [ht] at hP1
  have hK1 := va_K.moved hvm.symm hK1
  have hw11 : r10 = 5 := hw11
  obtain ⟨hP, hD⟩ := va_join (wr := [(cu, .inr (1, [.ref dl, .int 0, .int 0, .ref sb]))]) (w1 := []) hP hD [] [0] rfl rfl (by decide) (by decide) hk1 hFc hP1 hD1
  have hK := (hK.sub (tys' := []) [] rfl).app hK1
  generalize H1 = H at hP hS ⊢
  have hP : va_P (dC, dI) vwCl [(cu, .inr (1, [.ref dl, .int 0, .int 0, .ref sb]))] H := hP
  have hD : va_D A [(cu, .inr (1, [.ref dl, .int 0, .int 0, .ref sb]))] := hD
  have hK : va_K (dC, dI) vwCl [] s := hK
  refine lv_icmp_ge (tgt := 61) hx hb d_CU_word_38 rfl (fun h9 => absurd h9 (by rw [hw11]; decide)) (fun _ => ?_)
  refine lv_aload_n hx hb d_CU_word_41 rfl (lv_at hl 2 rfl) ?_
  refine lv_aload_n hx hb d_CU_word_42 rfl (lv_at hl 1 rfl) ?_
  refine lv_iload_n hx hb d_CU_word_43 rfl (lv_at hl 0 rfl) ?_
  have hPc := hP.sub (ws' := []) [] rfl
  have hDc := hD.sub (ws' := []) [] (by decide) rfl
  have hKc := hK.sub (tys' := []) [] rfl
  have hFc := va_free (wc := []) hD hS hA [] rfl
  refine va_calli (va_runV (As := [.int 0]) (rest := [.ref cu]) ⟨hx, hb, hml, hown, htb⟩ (k_ST_charAt l dC dI _ em aK aV ) (cwV 1 htb (g_V (fun _ h => h) m_460 m_457 m_458 m_459 m_4) rfl rfl rfl (by decide +kernel) ⟨Nat.le_of_ble_eq_true rfl, Nat.le_of_ble_eq_true rfl⟩) ⟨fun a U g mk q => by obtain ⟨q0, q1, qP, qK, qD, z0⟩ := q; exact ⟨q0, q1, qP, va_K.moved (u := U) (U := U.calling g mk a) (Vm.Alike.refl U.vm) qK, qD, EX.same (U := U) (U' := U.calling g mk a) rfl z0⟩, vk_recv hE.2.2.2.2.2.1 (i := 0) (by decide) hS, fun U hU hW => ⟨rfl, by rw [hU], by rw [hU]; exact hPc, va_K.moved hW.alike hKc, hDc.weaken (fun _ _ _ _ => trivial), by rw [hU]; exact EX.warm hW ((hE.kept (fun a h1 h2 => hS.2.1 a h1 h2)).narrow hFc)⟩⟩ rfl rfl hl.1 rfl (lv_room (Nat.le_of_ble_eq_true rfl)) d_CU_word_44 ⟨Nat.le_of_ble_eq_true rfl, Nat.le_of_ble_eq_true rfl⟩) hS (fun q _ h => hFc q h) hFc (fun r14 u13 t H1 locs ht hvm hw15 hB hz1 hk1 hS => ?_)
  obtain ⟨hP1, hK1, hD1⟩ := hB
  rw [ht] at hP1
  have hK1 := va_K.moved hvm.symm hK1
  have hw15 : r14 = 102 := hw15
  obtain ⟨hP, hD⟩ := va_join (wr := [(cu, .inr (1, [.ref dl, .int 0, .int 0, .ref sb]))]) (w1 := []) hP hD [] [0] rfl rfl (by decide) (by decide) hk1 hFc hP1 hD1
  have hK := (hK.sub (tys' := []) [] rfl).app hK1
  generalize H1 = H at hP hS ⊢
  have hP : va_P (dC, dI) vwCl [(cu, .inr (1, [.ref dl, .int 0, .int 0, .ref sb]))] H := hP
  have hD : va_D A [(cu, .inr (1, [.ref dl, .int 0, .int 0, .ref sb]))] := hD
  have hK : va_K (dC, dI) vwCl [] s := hK
  have hPc := hP.sub (ws' := [(cu, .inr (1, [.ref dl, .int 0, .int 0, .ref sb]))]) [0] rfl
  have hDc := hD.sub (ws' := [(cu, .inr (1, [.ref dl, .int 0, .int 0, .ref sb]))]) [0] (by decide) rfl
  have hKc := hK.sub (tys' := []) [] rfl
  have hFc := va_free (wc := [(cu, .inr (1, [.ref dl, .int 0, .int 0, .ref sb]))]) hD hS hA [0] rfl
  refine va_calli (va_runV (As := [.int r14]) (rest := []) ⟨hx, hb, hml, hown, htb⟩ (k0_CU_took l dC dI _ cu dl sb r14 ) (cwV 1 htb (g_V (fun _ h => h) m_435 m_432 m_433 m_434 m_10) rfl rfl rfl (by decide +kernel) ⟨Nat.le_of_ble_eq_true rfl, Nat.le_of_ble_eq_true rfl⟩) ⟨fun a U g mk q => by obtain ⟨q0, q1, qP, qK, qD⟩ := q; exact ⟨q0, q1, qP, va_K.moved (u := U) (U := U.calling g mk a) (Vm.Alike.refl U.vm) qK, qD⟩, va_recv hK hP (ci := 1) rfl (q0 := 0) rfl, fun U hU hW => ⟨rfl, by rw [hU], by rw [hU]; exact hPc, va_K.moved hW.alike hKc, hDc.weaken (fun _ _ _ _ => trivial)⟩⟩ rfl rfl hl.1 rfl (lv_room (Nat.le_of_ble_eq_true rfl)) d_CU_word_47 ⟨Nat.le_of_ble_eq_true rfl, Nat.le_of_ble_eq_true rfl⟩) hS (fun q _ h => hFc q h) hFc (fun r18 u17 t H1 locs ht hvm hw19 hB hz1 hk1 hS => ?_)
  obtain ⟨hP1, hK1, hD1⟩ := hB
  rw [ht] at hP1
  have hK1 := va_K.moved hvm.symm hK1
  have hw19 : r18 = 0 := hw19
  obtain ⟨hP, hD⟩ := va_join (wr := []) (w1 := [(cu, .inr (1, [.ref dl, .int 0, .int 0, .ref sb]))]) hP hD [0] [] rfl rfl (by decide) (by decide) hk1 hFc hP1 hD1
  have hK := (hK.sub (tys' := []) [] rfl).app hK1
  generalize H1 = H at hP hS ⊢
  have hP : va_P (dC, dI) vwCl [(cu, .inr (1, [.ref dl, .int 0, .int 0, .ref sb]))] H := hP
  have hD : va_D A [(cu, .inr (1, [.ref dl, .int 0, .int 0, .ref sb]))] := hD
  have hK : va_K (dC, dI) vwCl [] s := hK
  refine lv_if_ne (tgt := 55) hx hb d_CU_word_50 rfl (fun h9 => absurd (hw19) h9) (fun _ => ?_)
  refine lv_null hx hb d_CU_word_53 ?_
  have hP9 := hP.sub (ws' := [(cu, .inr (1, [.ref dl, .int 0, .int 0, .ref sb]))]) [0] rfl
  have hD9 := hD.sub (ws' := [(cu, .inr (1, [.ref dl, .int 0, .int 0, .ref sb]))]) [0] (by decide) rfl
  have hK9 := hK.sub (tys' := []) [] rfl
  refine W.widen (k := 0) (n := 0) (Nat.le_of_ble_eq_true rfl) (Nat.le_of_ble_eq_true rfl) ?_
  exact W.aret (v := .null) hx hb hr (Or.inl ⟨_, rfl⟩) (Or.inl rfl) (fun t ht hW => ⟨⟨none, (), rfl, rfl, ⟨by rw [ht]; exact hP9, va_K.moved hW.alike hK9, hD9⟩⟩, hS.F ht⟩) hS.2.2 d_CU_word_54
set_option maxHeartbeats 1000000 in
set_option maxRecDepth 100000 in
theorem k0_JR_value (l : Launch) (dC : Nat → ClassId) (dI : Nat → Nat → Nat) (sz : Nat) (jr : Nat) (lim : Int32) (cu : Nat) (dl : Nat) (sb : Nat) (em : Nat) (aK : Nat → Nat) (aV : Nat → Nat) : Met l y_JR_value ws_JR_value ({ frames := 5, cells := 0, slots := 0, locals := 107 }) (va_Pc [.ref jr, .int 0] (fun U => U.heap.size = sz ∧ va_P (dC, dI) vwCl [(jr, .inr (2, [.ref cu, .int lim, .int 1])), (cu, .inr (1, [.ref dl, .int 0, .int 0, .ref sb]))] U.heap ∧ va_K (dC, dI) vwCl [] U ∧ va_D (fun _ => True) [(jr, .inr (2, [.ref cu, .int lim, .int 1])), (cu, .inr (1, [.ref dl, .int 0, .int 0, .ref sb]))] ∧ EX em aK aV (va_A [(jr, .inr (2, [.ref cu, .int lim, .int 1])), (cu, .inr (1, [.ref dl, .int 0, .int 0, .ref sb]))] sz) U U.heap)) (va_Qq (fun (r : Option Nat) (u : Unit) => r = none) (fun u t => va_P (dC, dI) vwCl [(jr, .inr (2, [.ref cu, .int lim, .int 1])), (cu, .inr (1, [.ref dl, .int 0, .int 0, .ref sb]))] t.heap ∧ va_K (dC, dI) vwCl [] t ∧ va_D (va_A [(jr, .inr (2, [.ref cu, .int lim, .int 1])), (cu, .inr (1, [.ref dl, .int 0, .int 0, .ref sb]))] sz) [(jr, .inr (2, [.ref cu, .int lim, .int 1])), (cu, .inr (1, [.ref dl, .int 0, .int 0, .ref sb]))]) (va_A [(jr, .inr (2, [.ref cu, .int lim, .int 1])), (cu, .inr (1, [.ref dl, .int 0, .int 0, .ref sb]))] sz)) 0 0 (va_A [(jr, .inr (2, [.ref cu, .int lim, .int 1])), (cu, .inr (1, [.ref dl, .int 0, .int 0, .ref sb]))] sz) := by
  refine Met.ofW (cc := c_JR_value) (maxL := 4) (ret := (some (.object "PatchStore$Value"))) (by decide) rfl ?_
  intro p e s m args below meth c s₁ B hml hv
  obtain ⟨rfl, hsz, hP, hK, hD0, hE⟩ := hv
  have hx := B.exec
  have hb := B.bytes
  have hr := B.returns
  have hts := atoms_spec (ws := ws_JR_value) B.pre
  have htb := fun w (h : w ∈ TBL) => hts w (List.mem_cons_of_mem _ h)
  have hown : s.vm.findClass R_JR = some m.cls := findClass_of_methodNamed B.named
  have hlocks := B.notSynchronized
  subst hsz
  have hD := hD0.self (sz := s.heap.size)
  generalize hAe : va_A [(jr, .inr (2, [.ref cu, .int lim, .int 1])), (cu, .inr (1, [.ref dl, .int 0, .int 0, .ref sb]))] s.heap.size = A at hD hE ⊢
  have hA : ∀ q : Nat, s.heap.size ≤ q → A q := fun q h => by rw [← hAe]; exact Or.inr h
  have hS : va_S A s.heap s.heap [] := va_S.rf
  have hP : va_P (dC, dI) vwCl [(jr, .inr (2, [.ref cu, .int lim, .int 1])), (cu, .inr (1, [.ref dl, .int 0, .int 0, .ref sb]))] s.heap := hP
  have hl := lv_entry ([.ref jr, .int 0]) (n := 4) (Nat.le_of_ble_eq_true rfl)
  rw [lg_entry_eq]
  generalize (lg_sl ([.ref jr, .int 0]) ++ List.replicate (4 - (lg_sl ([.ref jr, .int 0])).length) Slot.unset).toArray = ls at hl ⊢
  have hl : lv_has ls 4 [(0, .ref jr), (1, .int 0)] := hl
  refine lv_aload_n hx hb d_JR_value_0 rfl (lv_at hl 0 rfl) ?_
  refine va_get (D := (dC, dI)) (ci := 2) (v := .ref cu) (C := R_JR) (T := T_JR) (N := 3) hx hb htb in_JR hown hK hP 0 rfl rfl 0 (by decide) (htb _ m_161) (fun _ h9 => h9) rfl d_JR_value_1 ?_
  have hPc := hP.sub (ws' := [(cu, .inr (1, [.ref dl, .int 0, .int 0, .ref sb]))]) [1] rfl
  have hDc := hD.sub (ws' := [(cu, .inr (1, [.ref dl, .int 0, .int 0, .ref sb]))]) [1] (by decide) rfl
  have hKc := hK.sub (tys' := []) [] rfl
  have hFc := va_free (wc := [(cu, .inr (1, [.ref dl, .int 0, .int 0, .ref sb]))]) hD hS hA [1] rfl
  refine va_calli (va_runV (As := []) (rest := []) ⟨hx, hb, hml, hown, htb⟩ (k0_CU_ahead l dC dI _ cu dl sb ) (cwV 0 htb (g_V (fun _ h => h) m_187 m_184 m_185 m_186 m_10) rfl rfl rfl (by decide +kernel) ⟨Nat.le_of_ble_eq_true rfl, Nat.le_of_ble_eq_true rfl⟩) ⟨fun a U g mk q => by obtain ⟨q0, q1, qP, qK, qD⟩ := q; exact ⟨q0, q1, qP, va_K.moved (u := U) (U := U.calling g mk a) (Vm.Alike.refl U.vm) qK, qD⟩, va_recv hK hP (ci := 1) rfl (q0 := 1) rfl, fun U hU hW => ⟨rfl, by rw [hU], by rw [hU]; exact hPc, va_K.moved hW.alike hKc, hDc.weaken (fun _ _ _ _ => trivial)⟩⟩ rfl rfl hl.1 rfl (lv_room (Nat.le_of_ble_eq_true rfl)) d_JR_value_4 ⟨Nat.le_of_ble_eq_true rfl, Nat.le_of_ble_eq_true rfl⟩) hS (fun q _ h => hFc q h) hFc (fun r2 u1 t H1 locs ht hvm hw3 hB hz1 hk1 hS => ?_)
  obtain ⟨hP1, hK1, hD1⟩ := hB
  rw [ht] at hP1
  have hK1 := va_K.moved hvm.symm hK1
  have hw3 : r2 = 0 := hw3
  obtain ⟨hP, hD⟩ := va_join (wr := [(jr, .inr (2, [.ref cu, .int lim, .int 1]))]) (w1 := [(cu, .inr (1, [.ref dl, .int 0, .int 0, .ref sb]))]) hP hD [1] [0] rfl rfl (by decide) (by decide) hk1 hFc hP1 hD1
  have hK := (hK.sub (tys' := []) [] rfl).app hK1
  generalize H1 = H at hP hS ⊢
  have hP : va_P (dC, dI) vwCl [(jr, .inr (2, [.ref cu, .int lim, .int 1])), (cu, .inr (1, [.ref dl, .int 0, .int 0, .ref sb]))] H := hP
  have hD : va_D A [(jr, .inr (2, [.ref cu, .int lim, .int 1])), (cu, .inr (1, [.ref dl, .int 0, .int 0, .ref sb]))] := hD
  have hK : va_K (dC, dI) vwCl [] s := hK
  refine lv_istore_n hx hb d_JR_value_7 rfl hl (by decide) rfl (fun ls hl => ?_)
  have hl : lv_has ls 4 [(2, .int r2), (0, .ref jr), (1, .int 0)] := hl
  refine lv_iload_n hx hb d_JR_value_8 rfl (lv_at hl 0 rfl) ?_
  refine lv_bipush (v := 34) hx hb d_JR_value_9 (by decide) ?_
  refine lv_icmp_ne (tgt := 41) hx hb d_JR_value_11 rfl (fun _ => ?_) (fun h9 => absurd h9 (by rw [hw3]; decide))
  refine lv_iload_n hx hb d_JR_value_41 rfl (lv_at hl 0 rfl) ?_
  refine lv_bipush (v := 91) hx hb d_JR_value_42 (by decide) ?_
  refine lv_icmp_eq (tgt := 81) hx hb d_JR_value_44 rfl (fun h9 => absurd h9 (by rw [hw3]; decide)) (fun _ => ?_)
  refine lv_iload_n hx hb d_JR_value_47 rfl (lv_at hl 0 rfl) ?_
  refine lv_bipush (v := 123) hx hb d_JR_value_48 (by decide) ?_
  refine lv_icmp_eq (tgt := 81) hx hb d_JR_value_50 rfl (fun h9 => absurd h9 (by rw [hw3]; decide)) (fun _ => ?_)
  refine lv_aload_n hx hb d_JR_value_53 rfl (lv_at hl 1 rfl) ?_
  refine va_get (D := (dC, dI)) (ci := 2) (v := .ref cu) (C := R_JR) (T := T_JR) (N := 3) hx hb htb in_JR hown hK hP 0 rfl rfl 0 (by decide) (htb _ m_161) (fun _ h9 => h9) rfl d_JR_value_54 ?_
  have hPc := hP.sub (ws' := [(cu, .inr (1, [.ref dl, .int 0, .int 0, .ref sb]))]) [1] rfl
  have hDc := hD.sub (ws' := [(cu, .inr (1, [.ref dl, .int 0, .int 0, .ref sb]))]) [1] (by decide) rfl
  have hKc := hK.sub (tys' := []) [] rfl
  have hFc := va_free (wc := [(cu, .inr (1, [.ref dl, .int 0, .int 0, .ref sb]))]) hD hS hA [1] rfl
  refine va_calli (va_runV (As := []) (rest := []) ⟨hx, hb, hml, hown, htb⟩ (k0_CU_isAtNumber l dC dI _ cu dl sb ) (cwV 0 htb (g_V (fun _ h => h) m_424 m_421 m_422 m_423 m_10) rfl rfl rfl (by decide +kernel) ⟨Nat.le_of_ble_eq_true rfl, Nat.le_of_ble_eq_true rfl⟩) ⟨fun a U g mk q => by obtain ⟨q0, q1, qP, qK, qD⟩ := q; exact ⟨q0, q1, qP, va_K.moved (u := U) (U := U.calling g mk a) (Vm.Alike.refl U.vm) qK, qD⟩, va_recv hK hP (ci := 1) rfl (q0 := 1) rfl, fun U hU hW => ⟨rfl, by rw [hU], by rw [hU]; exact hPc, va_K.moved hW.alike hKc, hDc.weaken (fun _ _ _ _ => trivial)⟩⟩ rfl rfl hl.1 rfl (lv_room (Nat.le_of_ble_eq_true rfl)) d_JR_value_57 ⟨Nat.le_of_ble_eq_true rfl, Nat.le_of_ble_eq_true rfl⟩) hS (fun q _ h => hFc q h) hFc (fun r6 u5 t H1 locs ht hvm hw7 hB hz1 hk1 hS => ?_)
  obtain ⟨hP1, hK1, hD1⟩ := hB
  rw [ht] at hP1
  have hK1 := va_K.moved hvm.symm hK1
  have hw7 : r6 = 0 := hw7
  obtain ⟨hP, hD⟩ := va_join (wr := [(jr, .inr (2, [.ref cu, .int lim, .int 1]))]) (w1 := [(cu, .inr (1, [.ref dl, .int 0, .int 0, .ref sb]))]) hP hD [1] [0] rfl rfl (by decide) (by decide) hk1 hFc hP1 hD1
  have hK := (hK.sub (tys' := []) [] rfl).app hK1
  generalize H1 = H at hP hS ⊢
  have hP : va_P (dC, dI) vwCl [(jr, .inr (2, [.ref cu, .int lim, .int 1])), (cu, .inr (1, [.ref dl, .int 0, .int 0, .ref sb]))] H := hP
  have hD : va_D A [(jr, .inr (2, [.ref cu, .int lim, .int 1])), (cu, .inr (1, [.ref dl, .int 0, .int 0, .ref sb]))] := hD
  have hK : va_K (dC, dI) vwCl [] s := hK
  refine lv_if_eq (tgt := 73) hx hb d_JR_value_60 rfl (fun _ => ?_) (fun h9 => absurd (hw7) h9)
  refine lv_aload_n hx hb d_JR_value_73 rfl (lv_at hl 1 rfl) ?_
  refine va_get (D := (dC, dI)) (ci := 2) (v := .ref cu) (C := R_JR) (T := T_JR) (N := 3) hx hb htb in_JR hown hK hP 0 rfl rfl 0 (by decide) (htb _ m_161) (fun _ h9 => h9) rfl d_JR_value_74 ?_
  have hPc := hP.sub (ws' := [(cu, .inr (1, [.ref dl, .int 0, .int 0, .ref sb]))]) [1] rfl
  have hDc := hD.sub (ws' := [(cu, .inr (1, [.ref dl, .int 0, .int 0, .ref sb]))]) [1] (by decide) rfl
  have hKc := hK.sub (tys' := []) [] rfl
  have hFc := va_free (wc := [(cu, .inr (1, [.ref dl, .int 0, .int 0, .ref sb]))]) hD hS hA [1] rfl
  refine va_callq (va_runV (As := []) (rest := []) ⟨hx, hb, hml, hown, htb⟩ (k0_CU_word l dC dI _ cu dl sb em aK aV ) (cwV 0 htb (g_V (fun _ h => h) m_445 m_442 m_443 m_444 m_10) rfl rfl rfl (by decide +kernel) ⟨Nat.le_of_ble_eq_true rfl, Nat.le_of_ble_eq_true rfl⟩) ⟨fun a U g mk q => by obtain ⟨q0, q1, qP, qK, qD, z0⟩ := q; exact ⟨q0, q1, qP, va_K.moved (u := U) (U := U.calling g mk a) (Vm.Alike.refl U.vm) qK, qD, EX.same (U := U) (U' := U.calling g mk a) rfl z0⟩, va_recv hK hP (ci := 1) rfl (q0 := 1) rfl, fun U hU hW => ⟨rfl, by rw [hU], by rw [hU]; exact hPc, va_K.moved hW.alike hKc, hDc.weaken (fun _ _ _ _ => trivial), by rw [hU]; exact EX.warm hW ((hE.kept (fun a h1 h2 => hS.2.1 a h1 h2)).narrow hFc)⟩⟩ rfl rfl hl.1 rfl (lv_room (Nat.le_of_ble_eq_true rfl)) d_JR_value_77 ⟨Nat.le_of_ble_eq_true rfl, Nat.le_of_ble_eq_true rfl⟩) hS (fun q _ h => hFc q h) hFc (fun r10 u9 t H1 locs ht hvm hw11 hB hz1 hk1 hS => ?_)
  obtain ⟨hP1, hK1, hD1⟩ := hB
  rw [ht] at hP1
  have hK1 := va_K.moved hvm.symm hK1
  have hw11 : r10 = none := hw11
  obtain ⟨hP, hD⟩ := va_join (wr := [(jr, .inr (2, [.ref cu, .int lim, .int 1]))]) (w1 := [(cu, .inr (1, [.ref dl, .int 0, .int 0, .ref sb]))]) hP hD [1] [0] rfl rfl (by decide) (by decide) hk1 hFc hP1 hD1
  have hK := (hK.sub (tys' := []) [] rfl).app hK1
  generalize H1 = H at hP hS ⊢
  have hP : va_P (dC, dI) vwCl [(jr, .inr (2, [.ref cu, .int lim, .int 1])), (cu, .inr (1, [.ref dl, .int 0, .int 0, .ref sb]))] H := hP
  have hD : va_D A [(jr, .inr (2, [.ref cu, .int lim, .int 1])), (cu, .inr (1, [.ref dl, .int 0, .int 0, .ref sb]))] := hD
  have hK : va_K (dC, dI) vwCl [] s := hK
  have hP9 := hP.sub (ws' := [(jr, .inr (2, [.ref cu, .int lim, .int 1])), (cu, .inr (1, [.ref dl, .int 0, .int 0, .ref sb]))]) [0, 1] rfl
  have hD9 := hD.sub (ws' := [(jr, .inr (2, [.ref cu, .int lim, .int 1])), (cu, .inr (1, [.ref dl, .int 0, .int 0, .ref sb]))]) [0, 1] (by decide) rfl
  have hK9 := hK.sub (tys' := []) [] rfl
  refine W.widen (k := 0) (n := 0) (Nat.le_of_ble_eq_true rfl) (Nat.le_of_ble_eq_true rfl) ?_
  exact W.aret (v := va_rf r10) hx hb hr (Or.inl ⟨_, rfl⟩) (by cases (r10) with | none => exact Or.inl rfl | some a => exact Or.inr ⟨_, rfl⟩) (fun t ht hW => ⟨⟨r10, (), rfl, hw11, ⟨by rw [ht]; exact hP9, va_K.moved hW.alike hK9, hD9⟩⟩, hS.F ht⟩) hS.2.2 d_JR_value_80
set_option maxHeartbeats 1000000 in
set_option maxRecDepth 100000 in
theorem k0_JR_whole (l : Launch) (dC : Nat → ClassId) (dI : Nat → Nat → Nat) (sz : Nat) (jr : Nat) (lim : Int32) (cu : Nat) (dl : Nat) (sb : Nat) (em : Nat) (aK : Nat → Nat) (aV : Nat → Nat) : Met l y_JR_whole ws_JR_whole ({ frames := 6, cells := 0, slots := 0, locals := 130 }) (va_Pc [.ref jr] (fun U => U.heap.size = sz ∧ va_P (dC, dI) vwCl [(jr, .inr (2, [.ref cu, .int lim, .int 1])), (cu, .inr (1, [.ref dl, .int 0, .int 0, .ref sb]))] U.heap ∧ va_K (dC, dI) vwCl [] U ∧ va_D (fun _ => True) [(jr, .inr (2, [.ref cu, .int lim, .int 1])), (cu, .inr (1, [.ref dl, .int 0, .int 0, .ref sb]))] ∧ EX em aK aV (va_A [(jr, .inr (2, [.ref cu, .int lim, .int 1])), (cu, .inr (1, [.ref dl, .int 0, .int 0, .ref sb]))] sz) U U.heap)) (va_Qq (fun (r : Option Nat) (u : Unit) => r = none) (fun u t => va_P (dC, dI) vwCl [(jr, .inr (2, [.ref cu, .int lim, .int 1])), (cu, .inr (1, [.ref dl, .int 0, .int 0, .ref sb]))] t.heap ∧ va_K (dC, dI) vwCl [] t ∧ va_D (va_A [(jr, .inr (2, [.ref cu, .int lim, .int 1])), (cu, .inr (1, [.ref dl, .int 0, .int 0, .ref sb]))] sz) [(jr, .inr (2, [.ref cu, .int lim, .int 1])), (cu, .inr (1, [.ref dl, .int 0, .int 0, .ref sb]))]) (va_A [(jr, .inr (2, [.ref cu, .int lim, .int 1])), (cu, .inr (1, [.ref dl, .int 0, .int 0, .ref sb]))] sz)) 0 0 (va_A [(jr, .inr (2, [.ref cu, .int lim, .int 1])), (cu, .inr (1, [.ref dl, .int 0, .int 0, .ref sb]))] sz) := by
  refine Met.ofW (cc := c_JR_whole) (maxL := 2) (ret := (some (.object "PatchStore$Value"))) (by decide) rfl ?_
  intro p e s m args below meth c s₁ B hml hv
  obtain ⟨rfl, hsz, hP, hK, hD0, hE⟩ := hv
  have hx := B.exec
  have hb := B.bytes
  have hr := B.returns
  have hts := atoms_spec (ws := ws_JR_whole) B.pre
  have htb := fun w (h : w ∈ TBL) => hts w (List.mem_cons_of_mem _ h)
  have hown : s.vm.findClass R_JR = some m.cls := findClass_of_methodNamed B.named
  have hlocks := B.notSynchronized
  subst hsz
  have hD := hD0.self (sz := s.heap.size)
  generalize hAe : va_A [(jr, .inr (2, [.ref cu, .int lim, .int 1])), (cu, .inr (1, [.ref dl, .int 0, .int 0, .ref sb]))] s.heap.size = A at hD hE ⊢
  have hA : ∀ q : Nat, s.heap.size ≤ q → A q := fun q h => by rw [← hAe]; exact Or.inr h
  have hS : va_S A s.heap s.heap [] := va_S.rf
  have hP : va_P (dC, dI) vwCl [(jr, .inr (2, [.ref cu, .int lim, .int 1])), (cu, .inr (1, [.ref dl, .int 0, .int 0, .ref sb]))] s.heap := hP
  have hl := lv_entry ([.ref jr]) (n := 2) (Nat.le_of_ble_eq_true rfl)
  rw [lg_entry_eq]
  generalize (lg_sl ([.ref jr]) ++ List.replicate (2 - (lg_sl ([.ref jr])).length) Slot.unset).toArray = ls at hl ⊢
  have hl : lv_has ls 2 [(0, .ref jr)] := hl
  refine lv_aload_n hx hb d_JR_whole_0 rfl (lv_at hl 0 rfl) ?_
  refine va_get (D := (dC, dI)) (ci := 2) (v := .ref cu) (C := R_JR) (T := T_JR) (N := 3) hx hb htb in_JR hown hK hP 0 rfl rfl 0 (by decide) (htb _ m_161) (fun _ h9 => h9) rfl d_JR_whole_1 ?_
  have hPc := hP.sub (ws' := [(cu, .inr (1, [.ref dl, .int 0, .int 0, .ref sb]))]) [1] rfl
  have hDc := hD.sub (ws' := [(cu, .inr (1, [.ref dl, .int 0, .int 0, .ref sb]))]) [1] (by decide) rfl
  have hKc := hK.sub (tys' := []) [] rfl
  have hFc := va_free (wc := [(cu, .inr (1, [.ref dl, .int 0, .int 0, .ref sb]))]) hD hS hA [1] rfl
  refine va_callv (va_runV (As := []) (rest := []) ⟨hx, hb, hml, hown, htb⟩ (k0_CU_skipBlanks l dC dI _ cu dl sb ) (cwV 0 htb (g_V (fun _ h => h) m_179 m_176 m_177 m_178 m_10) rfl rfl rfl (by decide +kernel) ⟨Nat.le_of_ble_eq_true rfl, Nat.le_of_ble_eq_true rfl⟩) ⟨fun a U g mk q => by obtain ⟨q0, q1, qP, qK, qD⟩ := q; exact ⟨q0, q1, qP, va_K.moved (u := U) (U := U.calling g mk a) (Vm.Alike.refl U.vm) qK, qD⟩, va_recv hK hP (ci := 1) rfl (q0 := 1) rfl, fun U hU hW => ⟨rfl, by rw [hU], by rw [hU]; exact hPc, va_K.moved hW.alike hKc, hDc.weaken (fun _ _ _ _ => trivial)⟩⟩ rfl rfl hl.1 rfl (lv_room (Nat.le_of_ble_eq_true rfl)) d_JR_whole_4 ⟨Nat.le_of_ble_eq_true rfl, Nat.le_of_ble_eq_true rfl⟩) hS (fun q _ h => hFc q h) hFc (fun u1 t H1 locs ht hvm hw3 hB hz1 hk1 hS => ?_)
  obtain ⟨hP1, hK1, hD1⟩ := hB
  rw [ht] at hP1
  have hK1 := va_K.moved hvm.symm hK1
  have hw3 : True := hw3
  obtain ⟨hP, hD⟩ := va_join (wr := [(jr, .inr (2, [.ref cu, .int lim, .int 1]))]) (w1 := [(cu, .inr (1, [.ref dl, .int 0, .int 0, .ref sb]))]) hP hD [1] [0] rfl rfl (by decide) (by decide) hk1 hFc hP1 hD1
  have hK := (hK.sub (tys' := []) [] rfl).app hK1
  generalize H1 = H at hP hS ⊢
  have hP : va_P (dC, dI) vwCl [(jr, .inr (2, [.ref cu, .int lim, .int 1])), (cu, .inr (1, [.ref dl, .int 0, .int 0, .ref sb]))] H := hP
  have hD : va_D A [(jr, .inr (2, [.ref cu, .int lim, .int 1])), (cu, .inr (1, [.ref dl, .int 0, .int 0, .ref sb]))] := hD
  have hK : va_K (dC, dI) vwCl [] s := hK
  refine lv_aload_n hx hb d_JR_whole_7 rfl (lv_at hl 0 rfl) ?_
  refine lv_iconst (v := 0) hx hb d_JR_whole_8 (by decide) ?_
  have hPc := hP.sub (ws' := [(jr, .inr (2, [.ref cu, .int lim, .int 1])), (cu, .inr (1, [.ref dl, .int 0, .int 0, .ref sb]))]) [0, 1] rfl
  have hDc := hD.sub (ws' := [(jr, .inr (2, [.ref cu, .int lim, .int 1])), (cu, .inr (1, [.ref dl, .int 0, .int 0, .ref sb]))]) [0, 1] (by decide) rfl
  have hKc := hK.sub (tys' := []) [] rfl
  have hFc := va_free (wc := [(jr, .inr (2, [.ref cu, .int lim, .int 1])), (cu, .inr (1, [.ref dl, .int 0, .int 0, .ref sb]))]) hD hS hA [0, 1] rfl
  refine va_callq (va_runV (As := [.int 0]) (rest := []) ⟨hx, hb, hml, hown, htb⟩ (k0_JR_value l dC dI _ jr lim cu dl sb em aK aV ) (cwV 1 htb (g_V (fun _ h => h) m_183 m_180 m_182 m_1627 m_11) rfl rfl rfl (by decide +kernel) ⟨Nat.le_of_ble_eq_true rfl, Nat.le_of_ble_eq_true rfl⟩) ⟨fun a U g mk q => by obtain ⟨q0, q1, qP, qK, qD, z0⟩ := q; exact ⟨q0, q1, qP, va_K.moved (u := U) (U := U.calling g mk a) (Vm.Alike.refl U.vm) qK, qD, EX.same (U := U) (U' := U.calling g mk a) rfl z0⟩, va_recv hK hP (ci := 2) rfl (q0 := 0) rfl, fun U hU hW => ⟨rfl, by rw [hU], by rw [hU]; exact hPc, va_K.moved hW.alike hKc, hDc.weaken (fun _ _ _ _ => trivial), by rw [hU]; exact EX.warm hW ((hE.kept (fun a h1 h2 => hS.2.1 a h1 h2)).narrow hFc)⟩⟩ rfl rfl hl.1 rfl (lv_room (Nat.le_of_ble_eq_true rfl)) d_JR_whole_9 ⟨Nat.le_of_ble_eq_true rfl, Nat.le_of_ble_eq_true rfl⟩) hS (fun q _ h => hFc q h) hFc (fun r6 u5 t H1 locs ht hvm hw7 hB hz1 hk1 hS => ?_)
  obtain ⟨hP1, hK1, hD1⟩ := hB
  rw [ht] at hP1
  have hK1 := va_K.moved hvm.symm hK1
  have hw7 : r6 = none := hw7
  obtain ⟨hP, hD⟩ := va_join (wr := []) (w1 := [(jr, .inr (2, [.ref cu, .int lim, .int 1])), (cu, .inr (1, [.ref dl, .int 0, .int 0, .ref sb]))]) hP hD [0, 1] [] rfl rfl (by decide) (by decide) hk1 hFc hP1 hD1
  have hK := (hK.sub (tys' := []) [] rfl).app hK1
  generalize H1 = H at hP hS ⊢
  have hP : va_P (dC, dI) vwCl [(jr, .inr (2, [.ref cu, .int lim, .int 1])), (cu, .inr (1, [.ref dl, .int 0, .int 0, .ref sb]))] H := hP
  have hD : va_D A [(jr, .inr (2, [.ref cu, .int lim, .int 1])), (cu, .inr (1, [.ref dl, .int 0, .int 0, .ref sb]))] := hD
  have hK : va_K (dC, dI) vwCl [] s := hK
  obtain rfl : r6 = none := hw7
  refine W.eq (g2 := F0 m 12 ls [.null]) rfl ?_
  refine lv_astore_nN hx hb d_JR_whole_12 rfl hl (by decide) rfl (fun ls hl => ?_)
  have hl : lv_has ls 2 [(1, .null), (0, .ref jr)] := hl
  refine lv_aload_n hx hb d_JR_whole_13 rfl (lv_at hl 1 rfl) ?_
  refine va_get (D := (dC, dI)) (ci := 2) (v := .ref cu) (C := R_JR) (T := T_JR) (N := 3) hx hb htb in_JR hown hK hP 0 rfl rfl 0 (by decide) (htb _ m_161) (fun _ h9 => h9) rfl d_JR_whole_14 ?_
  have hPc := hP.sub (ws' := [(cu, .inr (1, [.ref dl, .int 0, .int 0, .ref sb]))]) [1] rfl
  have hDc := hD.sub (ws' := [(cu, .inr (1, [.ref dl, .int 0, .int 0, .ref sb]))]) [1] (by decide) rfl
  have hKc := hK.sub (tys' := []) [] rfl
  have hFc := va_free (wc := [(cu, .inr (1, [.ref dl, .int 0, .int 0, .ref sb]))]) hD hS hA [1] rfl
  refine va_callv (va_runV (As := []) (rest := []) ⟨hx, hb, hml, hown, htb⟩ (k0_CU_skipBlanks l dC dI _ cu dl sb ) (cwV 0 htb (g_V (fun _ h => h) m_179 m_176 m_177 m_178 m_10) rfl rfl rfl (by decide +kernel) ⟨Nat.le_of_ble_eq_true rfl, Nat.le_of_ble_eq_true rfl⟩) ⟨fun a U g mk q => by obtain ⟨q0, q1, qP, qK, qD⟩ := q; exact ⟨q0, q1, qP, va_K.moved (u := U) (U := U.calling g mk a) (Vm.Alike.refl U.vm) qK, qD⟩, va_recv hK hP (ci := 1) rfl (q0 := 1) rfl, fun U hU hW => ⟨rfl, by rw [hU], by rw [hU]; exact hPc, va_K.moved hW.alike hKc, hDc.weaken (fun _ _ _ _ => trivial)⟩⟩ rfl rfl hl.1 rfl (lv_room (Nat.le_of_ble_eq_true rfl)) d_JR_whole_17 ⟨Nat.le_of_ble_eq_true rfl, Nat.le_of_ble_eq_true rfl⟩) hS (fun q _ h => hFc q h) hFc (fun u9 t H1 locs ht hvm hw11 hB hz1 hk1 hS => ?_)
  obtain ⟨hP1, hK1, hD1⟩ := hB
  rw [ht] at hP1
  have hK1 := va_K.moved hvm.symm hK1
  have hw11 : True := hw11
  obtain ⟨hP, hD⟩ := va_join (wr := [(jr, .inr (2, [.ref cu, .int lim, .int 1]))]) (w1 := [(cu, .inr (1, [.ref dl, .int 0, .int 0, .ref sb]))]) hP hD [1] [0] rfl rfl (by decide) (by decide) hk1 hFc hP1 hD1
  have hK := (hK.sub (tys' := []) [] rfl).app hK1
  generalize H1 = H at hP hS ⊢
  have hP : va_P (dC, dI) vwCl [(jr, .inr (2, [.ref cu, .int lim, .int 1])), (cu, .inr (1, [.ref dl, .int 0, .int 0, .ref sb]))] H := hP
  have hD : va_D A [(jr, .inr (2, [.ref cu, .int lim, .int 1])), (cu, .inr (1, [.ref dl, .int 0, .int 0, .ref sb]))] := hD
  have hK : va_K (dC, dI) vwCl [] s := hK
  refine lv_aload_n hx hb d_JR_whole_20 rfl (lv_at hl 1 rfl) ?_
  refine va_get (D := (dC, dI)) (ci := 2) (v := .ref cu) (C := R_JR) (T := T_JR) (N := 3) hx hb htb in_JR hown hK hP 0 rfl rfl 0 (by decide) (htb _ m_161) (fun _ h9 => h9) rfl d_JR_whole_21 ?_
  have hPc := hP.sub (ws' := [(cu, .inr (1, [.ref dl, .int 0, .int 0, .ref sb]))]) [1] rfl
  have hDc := hD.sub (ws' := [(cu, .inr (1, [.ref dl, .int 0, .int 0, .ref sb]))]) [1] (by decide) rfl
  have hKc := hK.sub (tys' := []) [] rfl
  have hFc := va_free (wc := [(cu, .inr (1, [.ref dl, .int 0, .int 0, .ref sb]))]) hD hS hA [1] rfl
  refine va_calli (va_runV (As := []) (rest := []) ⟨hx, hb, hml, hown, htb⟩ (k0_CU_ahead l dC dI _ cu dl sb ) (cwV 0 htb (g_V (fun _ h => h) m_187 m_184 m_185 m_186 m_10) rfl rfl rfl (by decide +kernel) ⟨Nat.le_of_ble_eq_true rfl, Nat.le_of_ble_eq_true rfl⟩) ⟨fun a U g mk q => by obtain ⟨q0, q1, qP, qK, qD⟩ := q; exact ⟨q0, q1, qP, va_K.moved (u := U) (U := U.calling g mk a) (Vm.Alike.refl U.vm) qK, qD⟩, va_recv hK hP (ci := 1) rfl (q0 := 1) rfl, fun U hU hW => ⟨rfl, by rw [hU], by rw [hU]; exact hPc, va_K.moved hW.alike hKc, hDc.weaken (fun _ _ _ _ => trivial)⟩⟩ rfl rfl hl.1 rfl (lv_room (Nat.le_of_ble_eq_true rfl)) d_JR_whole_24 ⟨Nat.le_of_ble_eq_true rfl, Nat.le_of_ble_eq_true rfl⟩) hS (fun q _ h => hFc q h) hFc (fun r14 u13 t H1 locs ht hvm hw15 hB hz1 hk1 hS => ?_)
  obtain ⟨hP1, hK1, hD1⟩ := hB
  rw [ht] at hP1
  have hK1 := va_K.moved hvm.symm hK1
  have hw15 : r14 = 0 := hw15
  obtain ⟨hP, hD⟩ := va_join (wr := [(jr, .inr (2, [.ref cu, .int lim, .int 1]))]) (w1 := [(cu, .inr (1, [.ref dl, .int 0, .int 0, .ref sb]))]) hP hD [1] [0] rfl rfl (by decide) (by decide) hk1 hFc hP1 hD1
  have hK := (hK.sub (tys' := []) [] rfl).app hK1
  generalize H1 = H at hP hS ⊢
  have hP : va_P (dC, dI) vwCl [(jr, .inr (2, [.ref cu, .int lim, .int 1])), (cu, .inr (1, [.ref dl, .int 0, .int 0, .ref sb]))] H := hP
  have hD : va_D A [(jr, .inr (2, [.ref cu, .int lim, .int 1])), (cu, .inr (1, [.ref dl, .int 0, .int 0, .ref sb]))] := hD
  have hK : va_K (dC, dI) vwCl [] s := hK
  refine lv_if_ne (tgt := 34) hx hb d_JR_whole_27 rfl (fun h9 => absurd (hw15) h9) (fun _ => ?_)
  refine lv_aload_nN hx hb d_JR_whole_30 rfl (lv_at hl 0 rfl) ?_
  refine lv_goto (tgt := 35) hx hb d_JR_whole_31 rfl ?_
  have hP9 := hP.sub (ws' := [(jr, .inr (2, [.ref cu, .int lim, .int 1])), (cu, .inr (1, [.ref dl, .int 0, .int 0, .ref sb]))]) [0, 1] rfl
  have hD9 := hD.sub (ws' := [(jr, .inr (2, [.ref cu, .int lim, .int 1])), (cu, .inr (1, [.ref dl, .int 0, .int 0, .ref sb]))]) [0, 1] (by decide) rfl
  have hK9 := hK.sub (tys' := []) [] rfl
  refine W.widen (k := 0) (n := 0) (Nat.le_of_ble_eq_true rfl) (Nat.le_of_ble_eq_true rfl) ?_
  exact W.aret (v := .null) hx hb hr (Or.inl ⟨_, rfl⟩) (Or.inl rfl) (fun t ht hW => ⟨⟨none, (), rfl, rfl, ⟨by rw [ht]; exact hP9, va_K.moved hW.alike hK9, hD9⟩⟩, hS.F ht⟩) hS.2.2 d_JR_whole_35
set_option maxHeartbeats 1000000 in
set_option maxRecDepth 100000 in
theorem k0_PS_put (l : Launch) (dC : Nat → ClassId) (dI : Nat → Nat → Nat) (sz : Nat) (x : Nat) (lim : Int32) (rm : Int32) (dl : Nat) (sb : Nat) (dc : Nat) (cm : Nat) (fo : Nat) (d : Int32) (em : Nat) (aK : Nat → Nat) (aV : Nat → Nat) : Met l y_PS_put ws_PS_put ({ frames := 7, cells := 2, slots := 7, locals := 151 }) (va_Pc [.ref x, .int d] (fun U => U.heap.size = sz ∧ va_P (dC, dI) vwCl [(x, .inr (0, [.int lim, .int rm, .ref dl, .int 0, .ref sb, .ref dc, .ref cm, .ref fo]))] U.heap ∧ va_K (dC, dI) vwCl [] U ∧ va_D (fun _ => True) [(x, .inr (0, [.int lim, .int rm, .ref dl, .int 0, .ref sb, .ref dc, .ref cm, .ref fo]))] ∧ EX em aK aV (va_A [(x, .inr (0, [.int lim, .int rm, .ref dl, .int 0, .ref sb, .ref dc, .ref cm, .ref fo]))] sz) U U.heap)) (va_Qi (fun (r : Int32) (u : Unit) => r = pt d) (fun u t => va_P (dC, dI) vwCl [(x, .inr (0, [.int lim, .int rm, .ref dl, .int 0, .ref sb, .ref dc, .ref cm, .ref fo]))] t.heap ∧ va_K (dC, dI) vwCl [] t ∧ va_D (va_A [(x, .inr (0, [.int lim, .int rm, .ref dl, .int 0, .ref sb, .ref dc, .ref cm, .ref fo]))] sz) [(x, .inr (0, [.int lim, .int rm, .ref dl, .int 0, .ref sb, .ref dc, .ref cm, .ref fo]))]) (va_A [(x, .inr (0, [.int lim, .int rm, .ref dl, .int 0, .ref sb, .ref dc, .ref cm, .ref fo]))] sz)) 2 7 (va_A [(x, .inr (0, [.int lim, .int rm, .ref dl, .int 0, .ref sb, .ref dc, .ref cm, .ref fo]))] sz) := by
  refine Met.ofW (cc := c_PS_put) (maxL := 5) (ret := (some .int)) (by decide) rfl ?_
  intro p e s m args below meth c s₁ B hml hv
  obtain ⟨rfl, hsz, hP, hK, hD0, hE⟩ := hv
  have hx := B.exec
  have hb := B.bytes
  have hr := B.returns
  have hts := atoms_spec (ws := ws_PS_put) B.pre
  have htb := fun w (h : w ∈ TBL) => hts w (List.mem_cons_of_mem _ h)
  have hown : s.vm.findClass R_PS = some m.cls := findClass_of_methodNamed B.named
  have hlocks := B.notSynchronized
  subst hsz
  have hD := hD0.self (sz := s.heap.size)
  generalize hAe : va_A [(x, .inr (0, [.int lim, .int rm, .ref dl, .int 0, .ref sb, .ref dc, .ref cm, .ref fo]))] s.heap.size = A at hD hE ⊢
  have hA : ∀ q : Nat, s.heap.size ≤ q → A q := fun q h => by rw [← hAe]; exact Or.inr h
  have hS : va_S A s.heap s.heap [] := va_S.rf
  have hP : va_P (dC, dI) vwCl [(x, .inr (0, [.int lim, .int rm, .ref dl, .int 0, .ref sb, .ref dc, .ref cm, .ref fo]))] s.heap := hP
  have hl := lv_entry ([.ref x, .int d]) (n := 5) (Nat.le_of_ble_eq_true rfl)
  rw [lg_entry_eq]
  generalize (lg_sl ([.ref x, .int d]) ++ List.replicate (5 - (lg_sl ([.ref x, .int d])).length) Slot.unset).toArray = ls at hl ⊢
  have hl : lv_has ls 5 [(0, .ref x), (1, .int d)] := hl
  refine lv_aload_n hx hb d_PS_put_0 rfl (lv_at hl 0 rfl) ?_
  have hPc := hP.sub (ws' := [(x, .inr (0, [.int lim, .int rm, .ref dl, .int 0, .ref sb, .ref dc, .ref cm, .ref fo]))]) [0] rfl
  have hDc := hD.sub (ws' := [(x, .inr (0, [.int lim, .int rm, .ref dl, .int 0, .ref sb, .ref dc, .ref cm, .ref fo]))]) [0] (by decide) rfl
  have hKc := hK.sub (tys' := []) [] rfl
  have hFc := va_free (wc := [(x, .inr (0, [.int lim, .int rm, .ref dl, .int 0, .ref sb, .ref dc, .ref cm, .ref fo]))]) hD hS hA [0] rfl
  refine va_callr (va_runV (As := []) (rest := []) ⟨hx, hb, hml, hown, htb⟩ (k_PS_takeDraft l dC dI _ x lim rm dl sb dc cm fo 0 ) (cwV 0 htb (g_V (fun _ h => h) m_135 m_132 m_134 m_1626 m_1) rfl rfl rfl (by decide +kernel) ⟨Nat.le_of_ble_eq_true rfl, Nat.le_of_ble_eq_true rfl⟩) ⟨fun a U g mk q => by obtain ⟨q0, q1, qP, qK, qD⟩ := q; exact ⟨q0, q1, qP, va_K.moved (u := U) (U := U.calling g mk a) (Vm.Alike.refl U.vm) qK, qD⟩, va_recv hK hP (ci := 0) rfl (q0 := 0) rfl, fun U hU hW => ⟨rfl, by rw [hU], by rw [hU]; exact hPc, va_K.moved hW.alike hKc, hDc.weaken (fun _ _ _ _ => trivial)⟩⟩ rfl rfl hl.1 rfl (lv_room (Nat.le_of_ble_eq_true rfl)) d_PS_put_1 ⟨Nat.le_of_ble_eq_true rfl, Nat.le_of_ble_eq_true rfl⟩) hS (fun q _ h => hFc q h) hFc (fun u1 ra4 t H1 locs ht hvm hw3 hB hz1 hk1 hS => ?_)
  obtain ⟨hP1, hK1, hD1⟩ := hB
  rw [ht] at hP1
  have hK1 := va_K.moved hvm.symm hK1
  have hw3 : True := hw3
  obtain ⟨hP, hD⟩ := va_join (wr := []) (w1 := [(x, .inr (0, [.int lim, .int rm, .ref dl, .int 0, .ref sb, .ref dc, .ref cm, .ref fo])), (ra4, .inr (1, [.ref dl, .int 0, .int 0, .ref sb]))]) hP hD [0] [] rfl rfl (by decide) (by decide) hk1 hFc hP1 hD1
  have hK := (hK.sub (tys' := []) [] rfl).app hK1
  generalize H1 = H at hP hS ⊢
  have hP : va_P (dC, dI) vwCl [(x, .inr (0, [.int lim, .int rm, .ref dl, .int 0, .ref sb, .ref dc, .ref cm, .ref fo])), (ra4, .inr (1, [.ref dl, .int 0, .int 0, .ref sb]))] H := hP
  have hD : va_D A [(x, .inr (0, [.int lim, .int rm, .ref dl, .int 0, .ref sb, .ref dc, .ref cm, .ref fo])), (ra4, .inr (1, [.ref dl, .int 0, .int 0, .ref sb]))] := hD
  have hK : va_K (dC, dI) vwCl [] s := hK
  refine W.widen (k := 1) (n := 4) (Nat.le_of_ble_eq_true rfl) (Nat.le_of_ble_eq_true rfl) ?_
  refine lv_astore_n hx hb d_PS_put_4 rfl hl (by decide) rfl (fun ls hl => ?_)
  have hl : lv_has ls 5 [(2, .ref ra4), (0, .ref x), (1, .int d)] := hl
  refine lv_iload_n hx hb d_PS_put_5 rfl (lv_at hl 2 rfl) ?_
  refine lv_if_lt (tgt := 14) hx hb d_PS_put_6 rfl (fun h1 => ?_) (fun h1 => ?_)
  · refine lv_iconst (v := (-1)) hx hb d_PS_put_14 (by decide) ?_
    have hP9 := hP.sub (ws' := [(x, .inr (0, [.int lim, .int rm, .ref dl, .int 0, .ref sb, .ref dc, .ref cm, .ref fo]))]) [0] rfl
    have hD9 := hD.sub (ws' := [(x, .inr (0, [.int lim, .int rm, .ref dl, .int 0, .ref sb, .ref dc, .ref cm, .ref fo]))]) [0] (by decide) rfl
    have hK9 := hK.sub (tys' := []) [] rfl
    refine W.widen (k := 2) (n := 7) (Nat.le_of_ble_eq_true rfl) (Nat.le_of_ble_eq_true rfl) ?_
    exact W.iret (v := (-1)) hx hb hr (fun t ht hW => ⟨⟨(-1), (), rfl, by rw [pt, if_pos h1], ⟨by rw [ht]; exact hP9, va_K.moved hW.alike hK9, hD9⟩⟩, hS.F ht⟩) hS.2.2 d_PS_put_15
  · refine lv_iload_n hx hb d_PS_put_9 rfl (lv_at hl 2 rfl) ?_
    refine lv_iconst (v := 3) hx hb d_PS_put_10 (by decide) ?_
    refine lv_icmp_lt (tgt := 16) hx hb d_PS_put_11 rfl (fun h2 => ?_) (fun h2 => ?_)
    · refine va_new (ci := 2) (fs := [.null, .int 0, .int 0]) (C := R_JR) (T := T_JR) (N := 3) hx hb htb in_JR ty_JR ty_JR_ok hown (htb _ m_155) (htb _ m_156) (htb _ m_11) hK hP hD hS hA rfl (fun j hj => by rcases (show j = 0 ∨ j = 1 ∨ j = 2 by omega) with rfl | rfl | rfl <;> rfl) (Nat.le_of_ble_eq_true rfl) (Nat.le_of_ble_eq_true rfl) d_PS_put_16 (fun jq H hP hD hS => ?_)
      have hP : va_P (dC, dI) vwCl [(x, .inr (0, [.int lim, .int rm, .ref dl, .int 0, .ref sb, .ref dc, .ref cm, .ref fo])), (ra4, .inr (1, [.ref dl, .int 0, .int 0, .ref sb])), (jq, .inr (2, [.null, .int 0, .int 0]))] H := hP
      have hD : va_D A [(x, .inr (0, [.int lim, .int rm, .ref dl, .int 0, .ref sb, .ref dc, .ref cm, .ref fo])), (ra4, .inr (1, [.ref dl, .int 0, .int 0, .ref sb])), (jq, .inr (2, [.null, .int 0, .int 0]))] := hD
      refine W.widen (k := 2) (n := 7) (Nat.le_of_ble_eq_true rfl) (Nat.le_of_ble_eq_true rfl) ?_
      refine lv_dup hx hb d_PS_put_19 rfl ?_
      refine lv_aload_n hx hb d_PS_put_20 rfl (lv_at hl 0 rfl) ?_
      refine lv_aload_n hx hb d_PS_put_21 rfl (lv_at hl 1 rfl) ?_
      refine va_get (D := (dC, dI)) (ci := 0) (v := .int lim) (C := R_PS) (T := T_PS) (N := 8) hx hb htb in_PS hown hK hP 0 rfl rfl 0 (by decide) (htb _ m_99) (fun _ h9 => h9) rfl d_PS_put_22 ?_
      have hPc := hP.sub (ws' := [(jq, .inr (2, [.null, .int 0, .int 0]))]) [2] rfl
      have hDc := hD.sub (ws' := [(jq, .inr (2, [.null, .int 0, .int 0]))]) [2] (by decide) rfl
      have hKc := hK.sub (tys' := []) [] rfl
      have hFc := va_free (wc := [(jq, .inr (2, [.null, .int 0, .int 0]))]) hD hS hA [2] rfl
      refine va_callv (va_runI (As := [.ref ra4, .int lim]) (rest := [.ref jq]) ⟨hx, hb, hml, hown, htb⟩ (k_JR_init l dC dI _ jq ra4 lim ) (cwI 2 htb (g_all (fun _ h => h) m_159) rfl rfl rfl (htb _ m_11) (htb _ m_157) (htb _ m_158) rfl (by decide +kernel) ⟨Nat.le_of_ble_eq_true rfl, Nat.le_of_ble_eq_true rfl⟩) ⟨fun a U g mk q => by obtain ⟨q0, q1, qP, qK, qD⟩ := q; exact ⟨q0, q1, qP, va_K.moved (u := U) (U := U.calling g mk a) (Vm.Alike.refl U.vm) qK, qD⟩, fun U hU hW => ⟨rfl, by rw [hU], by rw [hU]; exact hPc, va_K.moved hW.alike hKc, hDc.weaken (fun _ _ _ _ => trivial)⟩⟩ rfl rfl hl.1 rfl (lv_room (Nat.le_of_ble_eq_true rfl)) d_PS_put_25 ⟨Nat.le_of_ble_eq_true rfl, Nat.le_of_ble_eq_true rfl⟩) hS (fun q _ h => hFc q h) hFc (fun u5 t H1 locs ht hvm hw7 hB hz1 hk1 hS => ?_)
      obtain ⟨hP1, hK1, hD1⟩ := hB
      rw [ht] at hP1
      have hK1 := va_K.moved hvm.symm hK1
      have hw7 : True := hw7
      obtain ⟨hP, hD⟩ := va_join (wr := [(x, .inr (0, [.int lim, .int rm, .ref dl, .int 0, .ref sb, .ref dc, .ref cm, .ref fo])), (ra4, .inr (1, [.ref dl, .int 0, .int 0, .ref sb]))]) (w1 := [(jq, .inr (2, [.ref ra4, .int lim, .int 1]))]) hP hD [2] [0, 1] rfl rfl (by decide) (by decide) hk1 hFc hP1 hD1
      have hK := (hK.sub (tys' := []) [] rfl).app hK1
      generalize H1 = H at hP hS ⊢
      have hP : va_P (dC, dI) vwCl [(x, .inr (0, [.int lim, .int rm, .ref dl, .int 0, .ref sb, .ref dc, .ref cm, .ref fo])), (ra4, .inr (1, [.ref dl, .int 0, .int 0, .ref sb])), (jq, .inr (2, [.ref ra4, .int lim, .int 1]))] H := hP
      have hD : va_D A [(x, .inr (0, [.int lim, .int rm, .ref dl, .int 0, .ref sb, .ref dc, .ref cm, .ref fo])), (ra4, .inr (1, [.ref dl, .int 0, .int 0, .ref sb])), (jq, .inr (2, [.ref ra4, .int lim, .int 1]))] := hD
      have hK : va_K (dC, dI) vwCl [] s := hK
      refine lv_astore_n hx hb d_PS_put_28 rfl hl (by decide) rfl (fun ls hl => ?_)
      have hl : lv_has ls 5 [(3, .ref jq), (2, .ref ra4), (0, .ref x), (1, .int d)] := hl
      refine lv_aload_n hx hb d_PS_put_29 rfl (lv_at hl 0 rfl) ?_
      have hPc := hP.sub (ws' := [(jq, .inr (2, [.ref ra4, .int lim, .int 1])), (ra4, .inr (1, [.ref dl, .int 0, .int 0, .ref sb]))]) [2, 1] rfl
      have hDc := hD.sub (ws' := [(jq, .inr (2, [.ref ra4, .int lim, .int 1])), (ra4, .inr (1, [.ref dl, .int 0, .int 0, .ref sb]))]) [2, 1] (by decide) rfl
      have hKc := hK.sub (tys' := []) [] rfl
      have hFc := va_free (wc := [(jq, .inr (2, [.ref ra4, .int lim, .int 1])), (ra4, .inr (1, [.ref dl, .int 0, .int 0, .ref sb]))]) hD hS hA [2, 1] rfl
      refine va_callq (va_runV (As := []) (rest := []) ⟨hx, hb, hml, hown, htb⟩ (k0_JR_whole l dC dI _ jq lim ra4 dl sb em aK aV ) (cwV 0 htb (g_V (fun _ h => h) m_175 m_172 m_173 m_174 m_11) rfl rfl rfl (by decide +kernel) ⟨Nat.le_of_ble_eq_true rfl, Nat.le_of_ble_eq_true rfl⟩) ⟨fun a U g mk q => by obtain ⟨q0, q1, qP, qK, qD, z0⟩ := q; exact ⟨q0, q1, qP, va_K.moved (u := U) (U := U.calling g mk a) (Vm.Alike.refl U.vm) qK, qD, EX.same (U := U) (U' := U.calling g mk a) rfl z0⟩, va_recv hK hP (ci := 2) rfl (q0 := 2) rfl, fun U hU hW => ⟨rfl, by rw [hU], by rw [hU]; exact hPc, va_K.moved hW.alike hKc, hDc.weaken (fun _ _ _ _ => trivial), by rw [hU]; exact EX.warm hW ((hE.kept (fun a h1 h2 => hS.2.1 a h1 h2)).narrow hFc)⟩⟩ rfl rfl hl.1 rfl (lv_room (Nat.le_of_ble_eq_true rfl)) d_PS_put_30 ⟨Nat.le_of_ble_eq_true rfl, Nat.le_of_ble_eq_true rfl⟩) hS (fun q _ h => hFc q h) hFc (fun r10 u9 t H1 locs ht hvm hw11 hB hz1 hk1 hS => ?_)
      obtain ⟨hP1, hK1, hD1⟩ := hB
      rw [ht] at hP1
      have hK1 := va_K.moved hvm.symm hK1
      have hw11 : r10 = none := hw11
      obtain ⟨hP, hD⟩ := va_join (wr := [(x, .inr (0, [.int lim, .int rm, .ref dl, .int 0, .ref sb, .ref dc, .ref cm, .ref fo]))]) (w1 := [(jq, .inr (2, [.ref ra4, .int lim, .int 1])), (ra4, .inr (1, [.ref dl, .int 0, .int 0, .ref sb]))]) hP hD [2, 1] [0] rfl rfl (by decide) (by decide) hk1 hFc hP1 hD1
      have hK := (hK.sub (tys' := []) [] rfl).app hK1
      generalize H1 = H at hP hS ⊢
      have hP : va_P (dC, dI) vwCl [(x, .inr (0, [.int lim, .int rm, .ref dl, .int 0, .ref sb, .ref dc, .ref cm, .ref fo])), (jq, .inr (2, [.ref ra4, .int lim, .int 1])), (ra4, .inr (1, [.ref dl, .int 0, .int 0, .ref sb]))] H := hP
      have hD : va_D A [(x, .inr (0, [.int lim, .int rm, .ref dl, .int 0, .ref sb, .ref dc, .ref cm, .ref fo])), (jq, .inr (2, [.ref ra4, .int lim, .int 1])), (ra4, .inr (1, [.ref dl, .int 0, .int 0, .ref sb]))] := hD
      have hK : va_K (dC, dI) vwCl [] s := hK
      obtain rfl : r10 = none := hw11
      refine W.eq (g2 := F0 m 33 ls [.null]) rfl ?_
      refine lv_astoreN hx hb d_PS_put_33 hl (by decide) rfl (fun ls hl => ?_)
      have hl : lv_has ls 5 [(4, .null), (3, .ref jq), (2, .ref ra4), (0, .ref x), (1, .int d)] := hl
      refine lv_aloadN hx hb d_PS_put_35 (lv_at hl 0 rfl) ?_
      refine lv_ifnonnullN hx hb d_PS_put_37 ?_
      refine lv_aload_n hx hb d_PS_put_40 rfl (lv_at hl 1 rfl) ?_
      refine va_getN (D := (dC, dI)) (ci := 2) (v := .int 1) (C := R_JR) (T := T_JR) (N := 3) hx hb htb in_JR hown hK hP 1 rfl rfl 2 (by decide) (va_Nw.use rfl hE.1) (fun _ h9 => h9) rfl d_PS_put_41 ?_
      have hP9 := hP.sub (ws' := [(x, .inr (0, [.int lim, .int rm, .ref dl, .int 0, .ref sb, .ref dc, .ref cm, .ref fo]))]) [0] rfl
      have hD9 := hD.sub (ws' := [(x, .inr (0, [.int lim, .int rm, .ref dl, .int 0, .ref sb, .ref dc, .ref cm, .ref fo]))]) [0] (by decide) rfl
      have hK9 := hK.sub (tys' := []) [] rfl
      refine W.widen (k := 2) (n := 7) (Nat.le_of_ble_eq_true rfl) (Nat.le_of_ble_eq_true rfl) ?_
      exact W.iret (v := 1) hx hb hr (fun t ht hW => ⟨⟨1, (), rfl, by rw [pt, if_neg h1, if_pos h2], ⟨by rw [ht]; exact hP9, va_K.moved hW.alike hK9, hD9⟩⟩, hS.F ht⟩) hS.2.2 d_PS_put_44
    · refine lv_iconst (v := (-1)) hx hb d_PS_put_14 (by decide) ?_
      have hP9 := hP.sub (ws' := [(x, .inr (0, [.int lim, .int rm, .ref dl, .int 0, .ref sb, .ref dc, .ref cm, .ref fo]))]) [0] rfl
      have hD9 := hD.sub (ws' := [(x, .inr (0, [.int lim, .int rm, .ref dl, .int 0, .ref sb, .ref dc, .ref cm, .ref fo]))]) [0] (by decide) rfl
      have hK9 := hK.sub (tys' := []) [] rfl
      refine W.widen (k := 2) (n := 7) (Nat.le_of_ble_eq_true rfl) (Nat.le_of_ble_eq_true rfl) ?_
      exact W.iret (v := (-1)) hx hb hr (fun t ht hW => ⟨⟨(-1), (), rfl, by rw [pt, if_neg h1, if_neg h2], ⟨by rw [ht]; exact hP9, va_K.moved hW.alike hK9, hD9⟩⟩, hS.F ht⟩) hS.2.2 d_PS_put_15
