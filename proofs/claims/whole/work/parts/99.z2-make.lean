set_option maxHeartbeats 1000000 in
set_option maxRecDepth 100000 in
/-- Selector(..) -/
theorem k_SE_initN (l : Launch) (dC : Nat → ClassId) (dI : Nat → Nat → Nat) (sz : Nat) (x : Nat) (kk : Int32) (nm : Nat) (x1 : Int32) (x2 : Int32) (x3 : Int32) : Met l y_SE_init ws_SE_init ({ frames := 1, cells := 0, slots := 0, locals := 12 }) (va_Pc [.ref x, .int kk, .ref nm, .int x1, .int x2, .int x3, .null] (fun U => U.heap.size = sz ∧ va_P (dC, dI) vwCl [(x, .inr (10, [.int 0, .null, .int 0, .int 0, .int 0, .null]))] U.heap ∧ va_K (dC, dI) vwCl [] U ∧ va_D (fun _ => True) [(x, .inr (10, [.int 0, .null, .int 0, .int 0, .int 0, .null]))])) (va_Qv (fun (u : Unit) => True) (fun u t => va_P (dC, dI) vwCl [(x, .inr (10, [.int kk, .ref nm, .int x1, .int x2, .int x3, .null]))] t.heap ∧ va_K (dC, dI) vwCl [] t ∧ va_D (va_A [(x, .inr (10, [.int 0, .null, .int 0, .int 0, .int 0, .null]))] sz) [(x, .inr (10, [.int kk, .ref nm, .int x1, .int x2, .int x3, .null]))]) (va_A [(x, .inr (10, [.int 0, .null, .int 0, .int 0, .int 0, .null]))] sz)) 0 0 (va_A [(x, .inr (10, [.int 0, .null, .int 0, .int 0, .int 0, .null]))] sz) := by
  refine Met.ofW (cc := c_SE_init) (maxL := 7) (ret := none) (by decide) rfl ?_
  intro p e s m args below meth c s₁ B hml hv
  obtain ⟨rfl, hsz, hP, hK, hD0⟩ := hv
  have hx := B.exec
  have hb := B.bytes
  have hr := B.returns
  have hts := atoms_spec (ws := ws_SE_init) B.pre
  have htb := fun w (h : w ∈ TBL) => hts w (List.mem_cons_of_mem _ h)
  have hown : s.vm.findClass R_SE = some m.cls := findClass_of_methodNamed B.named
  have hlocks := B.notSynchronized
  have hin : meth.name = "<init>" := (name_of_methodNamed B.named B.method).1
  subst hsz
  have hD := hD0.self (sz := s.heap.size)
  generalize hAe : va_A [(x, .inr (10, [.int 0, .null, .int 0, .int 0, .int 0, .null]))] s.heap.size = A at hD ⊢
  have hA : ∀ q : Nat, s.heap.size ≤ q → A q := fun q h => by rw [← hAe]; exact Or.inr h
  have hS : va_S A s.heap s.heap [] := va_S.rf
  have hP : va_P (dC, dI) vwCl [(x, .inr (10, [.int 0, .null, .int 0, .int 0, .int 0, .null]))] s.heap := hP
  have hl := lv_entry ([.ref x, .int kk, .ref nm, .int x1, .int x2, .int x3, .null]) (n := 7) (Nat.le_of_ble_eq_true rfl)
  rw [lg_entry_eq]
  generalize (lg_sl ([.ref x, .int kk, .ref nm, .int x1, .int x2, .int x3, .null]) ++ List.replicate (7 - (lg_sl ([.ref x, .int kk, .ref nm, .int x1, .int x2, .int x3, .null])).length) Slot.unset).toArray = ls at hl ⊢
  replace hl : lv_has ls 7 [(0, .ref x), (1, .int kk), (2, .ref nm), (3, .int x1), (4, .int x2), (5, .int x3), (6, .null)] := hl
  refine lv_aload_n hx hb d_SE_init_0 rfl (lv_at hl 0 rfl) ?_
  refine W.objInit hx hb hown (htb _ m_898) (htb _ m_35) (htb _ m_36) rfl (by rw [hml]; exact hl.1) rfl d_SE_init_1 (Nat.le_of_ble_eq_true rfl) (Nat.le_of_ble_eq_true rfl) ?_
  refine W.eq (g2 := F0 m 4 ls []) rfl ?_
  refine lv_aload_n hx hb d_SE_init_4 rfl (lv_at hl 0 rfl) ?_
  refine lv_iload_n hx hb d_SE_init_5 rfl (lv_at hl 1 rfl) ?_
  refine va_putF (D := (dC, dI)) (ci := 10) (v := .int kk) (ty := .int) (C := R_SE) (T := T_SE) (N := 6) hx hb htb in_SE ty_SE ty_SE_ok nm_SE hown hK hP hD hS 0 rfl rfl 0 (by decide) (htb _ m_899) (fun _ h9 => h9) rfl hin rfl (by decide +kernel) rfl rfl (Nat.le_of_ble_eq_true rfl) d_SE_init_6 (fun H locs hP hD hS => ?_)
  replace hP : va_P (dC, dI) vwCl [(x, .inr (10, [.int kk, .null, .int 0, .int 0, .int 0, .null]))] H := hP
  replace hD : va_D A [(x, .inr (10, [.int kk, .null, .int 0, .int 0, .int 0, .null]))] := hD
  refine lv_aload_n hx hb d_SE_init_9 rfl (lv_at hl 0 rfl) ?_
  refine lv_aload_n hx hb d_SE_init_10 rfl (lv_at hl 2 rfl) ?_
  refine va_putF (D := (dC, dI)) (ci := 10) (v := .ref nm) (ty := (.object "java/lang/String")) (C := R_SE) (T := T_SE) (N := 6) hx hb htb in_SE ty_SE ty_SE_ok nm_SE hown hK hP hD hS 0 rfl rfl 1 (by decide) (htb _ m_900) (fun _ h9 => h9) rfl hin rfl (by decide +kernel) rfl rfl (Nat.le_of_ble_eq_true rfl) d_SE_init_11 (fun H locs hP hD hS => ?_)
  replace hP : va_P (dC, dI) vwCl [(x, .inr (10, [.int kk, .ref nm, .int 0, .int 0, .int 0, .null]))] H := hP
  replace hD : va_D A [(x, .inr (10, [.int kk, .ref nm, .int 0, .int 0, .int 0, .null]))] := hD
  refine lv_aload_n hx hb d_SE_init_14 rfl (lv_at hl 0 rfl) ?_
  refine lv_iload_n hx hb d_SE_init_15 rfl (lv_at hl 3 rfl) ?_
  refine va_putF (D := (dC, dI)) (ci := 10) (v := .int x1) (ty := .int) (C := R_SE) (T := T_SE) (N := 6) hx hb htb in_SE ty_SE ty_SE_ok nm_SE hown hK hP hD hS 0 rfl rfl 2 (by decide) (htb _ m_901) (fun _ h9 => h9) rfl hin rfl (by decide +kernel) rfl rfl (Nat.le_of_ble_eq_true rfl) d_SE_init_16 (fun H locs hP hD hS => ?_)
  replace hP : va_P (dC, dI) vwCl [(x, .inr (10, [.int kk, .ref nm, .int x1, .int 0, .int 0, .null]))] H := hP
  replace hD : va_D A [(x, .inr (10, [.int kk, .ref nm, .int x1, .int 0, .int 0, .null]))] := hD
  refine lv_aload_n hx hb d_SE_init_19 rfl (lv_at hl 0 rfl) ?_
  refine lv_iload hx hb d_SE_init_20 (lv_at hl 4 rfl) ?_
  refine va_putF (D := (dC, dI)) (ci := 10) (v := .int x2) (ty := .int) (C := R_SE) (T := T_SE) (N := 6) hx hb htb in_SE ty_SE ty_SE_ok nm_SE hown hK hP hD hS 0 rfl rfl 3 (by decide) (htb _ m_902) (fun _ h9 => h9) rfl hin rfl (by decide +kernel) rfl rfl (Nat.le_of_ble_eq_true rfl) d_SE_init_22 (fun H locs hP hD hS => ?_)
  replace hP : va_P (dC, dI) vwCl [(x, .inr (10, [.int kk, .ref nm, .int x1, .int x2, .int 0, .null]))] H := hP
  replace hD : va_D A [(x, .inr (10, [.int kk, .ref nm, .int x1, .int x2, .int 0, .null]))] := hD
  refine lv_aload_n hx hb d_SE_init_25 rfl (lv_at hl 0 rfl) ?_
  refine lv_iload hx hb d_SE_init_26 (lv_at hl 5 rfl) ?_
  refine va_putF (D := (dC, dI)) (ci := 10) (v := .int x3) (ty := .int) (C := R_SE) (T := T_SE) (N := 6) hx hb htb in_SE ty_SE ty_SE_ok nm_SE hown hK hP hD hS 0 rfl rfl 4 (by decide) (htb _ m_903) (fun _ h9 => h9) rfl hin rfl (by decide +kernel) rfl rfl (Nat.le_of_ble_eq_true rfl) d_SE_init_28 (fun H locs hP hD hS => ?_)
  replace hP : va_P (dC, dI) vwCl [(x, .inr (10, [.int kk, .ref nm, .int x1, .int x2, .int x3, .null]))] H := hP
  replace hD : va_D A [(x, .inr (10, [.int kk, .ref nm, .int x1, .int x2, .int x3, .null]))] := hD
  refine lv_aload_n hx hb d_SE_init_31 rfl (lv_at hl 0 rfl) ?_
  refine lv_aloadN hx hb d_SE_init_32 (lv_at hl 6 rfl) ?_
  refine va_putF (D := (dC, dI)) (ci := 10) (v := .null) (ty := (.object "PatchStore$Test")) (C := R_SE) (T := T_SE) (N := 6) hx hb htb in_SE ty_SE ty_SE_ok nm_SE hown hK hP hD hS 0 rfl rfl 5 (by decide) (htb _ m_904) (fun _ h9 => h9) rfl hin rfl (by decide +kernel) rfl rfl (Nat.le_of_ble_eq_true rfl) d_SE_init_34 (fun H locs hP hD hS => ?_)
  replace hP : va_P (dC, dI) vwCl [(x, .inr (10, [.int kk, .ref nm, .int x1, .int x2, .int x3, .null]))] H := hP
  replace hD : va_D A [(x, .inr (10, [.int kk, .ref nm, .int x1, .int x2, .int x3, .null]))] := hD
  have hP9 := hP.sub (ws' := [(x, .inr (10, [.int kk, .ref nm, .int x1, .int x2, .int x3, .null]))]) [0] rfl
  have hD9 := hD.sub (ws' := [(x, .inr (10, [.int kk, .ref nm, .int x1, .int x2, .int x3, .null]))]) [0] (by decide) rfl
  have hK9 := hK.sub (tys' := []) [] rfl
  refine W.widen (k := 0) (n := 0) (Nat.le_of_ble_eq_true rfl) (Nat.le_of_ble_eq_true rfl) ?_
  exact W.vret hx hb hr (fun t ht hW => ⟨⟨(), rfl, trivial, ⟨by rw [ht]; exact hP9, va_K.moved hW.alike hK9, hD9⟩⟩, hS.F ht⟩) hS.2.2 d_SE_init_37
set_option maxHeartbeats 1000000 in
set_option maxRecDepth 100000 in
/-- Selector(..) -/
theorem k_SE_initT (l : Launch) (dC : Nat → ClassId) (dI : Nat → Nat → Nat) (sz : Nat) (x : Nat) (kk : Int32) (nm : Nat) (x1 : Int32) (x2 : Int32) (x3 : Int32) (te : Nat) : Met l y_SE_init ws_SE_init ({ frames := 1, cells := 0, slots := 0, locals := 12 }) (va_Pc [.ref x, .int kk, .ref nm, .int x1, .int x2, .int x3, .ref te] (fun U => U.heap.size = sz ∧ va_P (dC, dI) vwCl [(x, .inr (10, [.int 0, .null, .int 0, .int 0, .int 0, .null]))] U.heap ∧ va_K (dC, dI) vwCl [] U ∧ va_D (fun _ => True) [(x, .inr (10, [.int 0, .null, .int 0, .int 0, .int 0, .null]))])) (va_Qv (fun (u : Unit) => True) (fun u t => va_P (dC, dI) vwCl [(x, .inr (10, [.int kk, .ref nm, .int x1, .int x2, .int x3, .ref te]))] t.heap ∧ va_K (dC, dI) vwCl [] t ∧ va_D (va_A [(x, .inr (10, [.int 0, .null, .int 0, .int 0, .int 0, .null]))] sz) [(x, .inr (10, [.int kk, .ref nm, .int x1, .int x2, .int x3, .ref te]))]) (va_A [(x, .inr (10, [.int 0, .null, .int 0, .int 0, .int 0, .null]))] sz)) 0 0 (va_A [(x, .inr (10, [.int 0, .null, .int 0, .int 0, .int 0, .null]))] sz) := by
  refine Met.ofW (cc := c_SE_init) (maxL := 7) (ret := none) (by decide) rfl ?_
  intro p e s m args below meth c s₁ B hml hv
  obtain ⟨rfl, hsz, hP, hK, hD0⟩ := hv
  have hx := B.exec
  have hb := B.bytes
  have hr := B.returns
  have hts := atoms_spec (ws := ws_SE_init) B.pre
  have htb := fun w (h : w ∈ TBL) => hts w (List.mem_cons_of_mem _ h)
  have hown : s.vm.findClass R_SE = some m.cls := findClass_of_methodNamed B.named
  have hlocks := B.notSynchronized
  have hin : meth.name = "<init>" := (name_of_methodNamed B.named B.method).1
  subst hsz
  have hD := hD0.self (sz := s.heap.size)
  generalize hAe : va_A [(x, .inr (10, [.int 0, .null, .int 0, .int 0, .int 0, .null]))] s.heap.size = A at hD ⊢
  have hA : ∀ q : Nat, s.heap.size ≤ q → A q := fun q h => by rw [← hAe]; exact Or.inr h
  have hS : va_S A s.heap s.heap [] := va_S.rf
  have hP : va_P (dC, dI) vwCl [(x, .inr (10, [.int 0, .null, .int 0, .int 0, .int 0, .null]))] s.heap := hP
  have hl := lv_entry ([.ref x, .int kk, .ref nm, .int x1, .int x2, .int x3, .ref te]) (n := 7) (Nat.le_of_ble_eq_true rfl)
  rw [lg_entry_eq]
  generalize (lg_sl ([.ref x, .int kk, .ref nm, .int x1, .int x2, .int x3, .ref te]) ++ List.replicate (7 - (lg_sl ([.ref x, .int kk, .ref nm, .int x1, .int x2, .int x3, .ref te])).length) Slot.unset).toArray = ls at hl ⊢
  replace hl : lv_has ls 7 [(0, .ref x), (1, .int kk), (2, .ref nm), (3, .int x1), (4, .int x2), (5, .int x3), (6, .ref te)] := hl
  refine lv_aload_n hx hb d_SE_init_0 rfl (lv_at hl 0 rfl) ?_
  refine W.objInit hx hb hown (htb _ m_898) (htb _ m_35) (htb _ m_36) rfl (by rw [hml]; exact hl.1) rfl d_SE_init_1 (Nat.le_of_ble_eq_true rfl) (Nat.le_of_ble_eq_true rfl) ?_
  refine W.eq (g2 := F0 m 4 ls []) rfl ?_
  refine lv_aload_n hx hb d_SE_init_4 rfl (lv_at hl 0 rfl) ?_
  refine lv_iload_n hx hb d_SE_init_5 rfl (lv_at hl 1 rfl) ?_
  refine va_putF (D := (dC, dI)) (ci := 10) (v := .int kk) (ty := .int) (C := R_SE) (T := T_SE) (N := 6) hx hb htb in_SE ty_SE ty_SE_ok nm_SE hown hK hP hD hS 0 rfl rfl 0 (by decide) (htb _ m_899) (fun _ h9 => h9) rfl hin rfl (by decide +kernel) rfl rfl (Nat.le_of_ble_eq_true rfl) d_SE_init_6 (fun H locs hP hD hS => ?_)
  replace hP : va_P (dC, dI) vwCl [(x, .inr (10, [.int kk, .null, .int 0, .int 0, .int 0, .null]))] H := hP
  replace hD : va_D A [(x, .inr (10, [.int kk, .null, .int 0, .int 0, .int 0, .null]))] := hD
  refine lv_aload_n hx hb d_SE_init_9 rfl (lv_at hl 0 rfl) ?_
  refine lv_aload_n hx hb d_SE_init_10 rfl (lv_at hl 2 rfl) ?_
  refine va_putF (D := (dC, dI)) (ci := 10) (v := .ref nm) (ty := (.object "java/lang/String")) (C := R_SE) (T := T_SE) (N := 6) hx hb htb in_SE ty_SE ty_SE_ok nm_SE hown hK hP hD hS 0 rfl rfl 1 (by decide) (htb _ m_900) (fun _ h9 => h9) rfl hin rfl (by decide +kernel) rfl rfl (Nat.le_of_ble_eq_true rfl) d_SE_init_11 (fun H locs hP hD hS => ?_)
  replace hP : va_P (dC, dI) vwCl [(x, .inr (10, [.int kk, .ref nm, .int 0, .int 0, .int 0, .null]))] H := hP
  replace hD : va_D A [(x, .inr (10, [.int kk, .ref nm, .int 0, .int 0, .int 0, .null]))] := hD
  refine lv_aload_n hx hb d_SE_init_14 rfl (lv_at hl 0 rfl) ?_
  refine lv_iload_n hx hb d_SE_init_15 rfl (lv_at hl 3 rfl) ?_
  refine va_putF (D := (dC, dI)) (ci := 10) (v := .int x1) (ty := .int) (C := R_SE) (T := T_SE) (N := 6) hx hb htb in_SE ty_SE ty_SE_ok nm_SE hown hK hP hD hS 0 rfl rfl 2 (by decide) (htb _ m_901) (fun _ h9 => h9) rfl hin rfl (by decide +kernel) rfl rfl (Nat.le_of_ble_eq_true rfl) d_SE_init_16 (fun H locs hP hD hS => ?_)
  replace hP : va_P (dC, dI) vwCl [(x, .inr (10, [.int kk, .ref nm, .int x1, .int 0, .int 0, .null]))] H := hP
  replace hD : va_D A [(x, .inr (10, [.int kk, .ref nm, .int x1, .int 0, .int 0, .null]))] := hD
  refine lv_aload_n hx hb d_SE_init_19 rfl (lv_at hl 0 rfl) ?_
  refine lv_iload hx hb d_SE_init_20 (lv_at hl 4 rfl) ?_
  refine va_putF (D := (dC, dI)) (ci := 10) (v := .int x2) (ty := .int) (C := R_SE) (T := T_SE) (N := 6) hx hb htb in_SE ty_SE ty_SE_ok nm_SE hown hK hP hD hS 0 rfl rfl 3 (by decide) (htb _ m_902) (fun _ h9 => h9) rfl hin rfl (by decide +kernel) rfl rfl (Nat.le_of_ble_eq_true rfl) d_SE_init_22 (fun H locs hP hD hS => ?_)
  replace hP : va_P (dC, dI) vwCl [(x, .inr (10, [.int kk, .ref nm, .int x1, .int x2, .int 0, .null]))] H := hP
  replace hD : va_D A [(x, .inr (10, [.int kk, .ref nm, .int x1, .int x2, .int 0, .null]))] := hD
  refine lv_aload_n hx hb d_SE_init_25 rfl (lv_at hl 0 rfl) ?_
  refine lv_iload hx hb d_SE_init_26 (lv_at hl 5 rfl) ?_
  refine va_putF (D := (dC, dI)) (ci := 10) (v := .int x3) (ty := .int) (C := R_SE) (T := T_SE) (N := 6) hx hb htb in_SE ty_SE ty_SE_ok nm_SE hown hK hP hD hS 0 rfl rfl 4 (by decide) (htb _ m_903) (fun _ h9 => h9) rfl hin rfl (by decide +kernel) rfl rfl (Nat.le_of_ble_eq_true rfl) d_SE_init_28 (fun H locs hP hD hS => ?_)
  replace hP : va_P (dC, dI) vwCl [(x, .inr (10, [.int kk, .ref nm, .int x1, .int x2, .int x3, .null]))] H := hP
  replace hD : va_D A [(x, .inr (10, [.int kk, .ref nm, .int x1, .int x2, .int x3, .null]))] := hD
  refine lv_aload_n hx hb d_SE_init_31 rfl (lv_at hl 0 rfl) ?_
  refine lv_aload hx hb d_SE_init_32 (lv_at hl 6 rfl) ?_
  refine va_putF (D := (dC, dI)) (ci := 10) (v := .ref te) (ty := (.object "PatchStore$Test")) (C := R_SE) (T := T_SE) (N := 6) hx hb htb in_SE ty_SE ty_SE_ok nm_SE hown hK hP hD hS 0 rfl rfl 5 (by decide) (htb _ m_904) (fun _ h9 => h9) rfl hin rfl (by decide +kernel) rfl rfl (Nat.le_of_ble_eq_true rfl) d_SE_init_34 (fun H locs hP hD hS => ?_)
  replace hP : va_P (dC, dI) vwCl [(x, .inr (10, [.int kk, .ref nm, .int x1, .int x2, .int x3, .ref te]))] H := hP
  replace hD : va_D A [(x, .inr (10, [.int kk, .ref nm, .int x1, .int x2, .int x3, .ref te]))] := hD
  have hP9 := hP.sub (ws' := [(x, .inr (10, [.int kk, .ref nm, .int x1, .int x2, .int x3, .ref te]))]) [0] rfl
  have hD9 := hD.sub (ws' := [(x, .inr (10, [.int kk, .ref nm, .int x1, .int x2, .int x3, .ref te]))]) [0] (by decide) rfl
  have hK9 := hK.sub (tys' := []) [] rfl
  refine W.widen (k := 0) (n := 0) (Nat.le_of_ble_eq_true rfl) (Nat.le_of_ble_eq_true rfl) ?_
  exact W.vret hx hb hr (fun t ht hW => ⟨⟨(), rfl, trivial, ⟨by rw [ht]; exact hP9, va_K.moved hW.alike hK9, hD9⟩⟩, hS.F ht⟩) hS.2.2 d_SE_init_37
set_option maxHeartbeats 1000000 in
set_option maxRecDepth 100000 in
/-- all() -/
theorem k_SE_all (l : Launch) (dC : Nat → ClassId) (dI : Nat → Nat → Nat) (sz : Nat) (em : Nat) (aK : Nat → Nat) (aV : Nat → Nat) : Met l y_SE_all ws_SE_all ({ frames := 2, cells := 1, slots := 6, locals := 38 }) (va_Pc [] (fun U => U.heap.size = sz ∧ va_P (dC, dI) vwCl [] U.heap ∧ va_K (dC, dI) vwCl [] U ∧ va_D (fun _ => True) [] ∧ EX em aK aV (va_A [] sz) U U.heap)) (va_Qr (fun (u : Unit) => True) (fun u ra t => va_P (dC, dI) vwCl [(ra, .inr (10, [.int 0, .ref (aK 0), .int 0, .int 0, .int 0, .null]))] t.heap ∧ va_K (dC, dI) vwCl [] t ∧ va_D (va_A [] sz) [(ra, .inr (10, [.int 0, .ref (aK 0), .int 0, .int 0, .int 0, .null]))]) (va_A [] sz)) 1 6 (va_A [] sz) := by
  refine Met.ofW (cc := c_SE_all) (maxL := 0) (ret := (some (.object "PatchStore$Selector"))) (by decide) rfl ?_
  intro p e s m args below meth c s₁ B hml hv
  obtain ⟨rfl, hsz, hP, hK, hD0, hE⟩ := hv
  have hx := B.exec
  have hb := B.bytes
  have hr := B.returns
  have hts := atoms_spec (ws := ws_SE_all) B.pre
  have htb := fun w (h : w ∈ TBL) => hts w (List.mem_cons_of_mem _ h)
  have hown : s.vm.findClass R_SE = some m.cls := findClass_of_methodNamed B.named
  have hlocks := B.notSynchronized
  subst hsz
  have hD := hD0.self (sz := s.heap.size)
  generalize hAe : va_A [] s.heap.size = A at hD hE ⊢
  have hA : ∀ q : Nat, s.heap.size ≤ q → A q := fun q h => by rw [← hAe]; exact Or.inr h
  have hS : va_S A s.heap s.heap [] := va_S.rf
  have hP : va_P (dC, dI) vwCl [] s.heap := hP
  have hl := lv_entry ([]) (n := 0) (Nat.le_of_ble_eq_true rfl)
  rw [lg_entry_eq]
  generalize (lg_sl ([]) ++ List.replicate (0 - (lg_sl ([])).length) Slot.unset).toArray = ls at hl ⊢
  replace hl : lv_has ls 0 [] := hl
  refine va_new (ci := 10) (fs := [.int 0, .null, .int 0, .int 0, .int 0, .null]) (C := R_SE) (T := T_SE) (N := 6) hx hb htb in_SE ty_SE ty_SE_ok hown (htb _ m_892) (htb _ m_893) (htb _ m_26) hK hP hD hS hA rfl (fun j hj => by rcases (show j = 0 ∨ j = 1 ∨ j = 2 ∨ j = 3 ∨ j = 4 ∨ j = 5 by omega) with rfl | rfl | rfl | rfl | rfl | rfl <;> rfl) (Nat.le_of_ble_eq_true rfl) (Nat.le_of_ble_eq_true rfl) d_SE_all_0 (fun zs H hP hD hS => ?_)
  replace hP : va_P (dC, dI) vwCl [(zs, .inr (10, [.int 0, .null, .int 0, .int 0, .int 0, .null]))] H := hP
  replace hD : va_D A [(zs, .inr (10, [.int 0, .null, .int 0, .int 0, .int 0, .null]))] := hD
  refine W.widen (k := 1) (n := 6) (Nat.le_of_ble_eq_true rfl) (Nat.le_of_ble_eq_true rfl) ?_
  refine lv_dup hx hb d_SE_all_3 rfl ?_
  refine lv_iconst (v := 0) hx hb d_SE_all_4 (by decide) ?_
  refine va_ldcS hx hb hown (lr_20 hE) d_SE_all_5 ?_
  refine lv_iconst (v := 0) hx hb d_SE_all_7 (by decide) ?_
  refine lv_iconst (v := 0) hx hb d_SE_all_8 (by decide) ?_
  refine lv_iconst (v := 0) hx hb d_SE_all_9 (by decide) ?_
  refine lv_null hx hb d_SE_all_10 ?_
  have hPc := hP.sub (ws' := [(zs, .inr (10, [.int 0, .null, .int 0, .int 0, .int 0, .null]))]) [0] rfl
  have hDc := hD.sub (ws' := [(zs, .inr (10, [.int 0, .null, .int 0, .int 0, .int 0, .null]))]) [0] (by decide) rfl
  have hFc := va_free (wc := [(zs, .inr (10, [.int 0, .null, .int 0, .int 0, .int 0, .null]))]) hD hS hA [0] rfl
  have hKc := hK.sub (tys' := []) [] rfl
  refine va_callv (va_runI (As := [.int 0, .ref (aK 0), .int 0, .int 0, .int 0, .null]) (rest := [.ref zs]) ⟨hx, hb, hml, hown, htb⟩ (k_SE_initN l dC dI _ zs 0 (aK 0) 0 0 0 ) (cwI 6 htb (g_all (fun _ h => h) m_897) rfl rfl rfl (htb _ m_26) (htb _ m_895) (htb _ m_896) rfl (by decide +kernel) ⟨Nat.le_of_ble_eq_true rfl, Nat.le_of_ble_eq_true rfl⟩) ⟨fun a U g mk q => by obtain ⟨q0, q1, qP, qK, qD⟩ := q; exact ⟨q0, q1, qP, va_K.moved (u := U) (U := U.calling g mk a) (Vm.Alike.refl U.vm) qK, qD⟩, fun U hU hW => ⟨rfl, by rw [hU], by rw [hU]; exact hPc, va_K.moved hW.alike hKc, hDc.weaken (fun _ _ _ _ => trivial)⟩⟩ rfl rfl hl.1 rfl (lv_room (Nat.le_of_ble_eq_true rfl)) d_SE_all_11 ⟨Nat.le_of_ble_eq_true rfl, Nat.le_of_ble_eq_true rfl⟩) hS (fun q _ h => hFc q h) hFc (fun u21 t H1 locs ht hvm hw23 hB hz1 hk1 hS => ?_)
  obtain ⟨hP1, hK1, hD1⟩ := hB
  rw [ht] at hP1
  have hK1 := va_K.moved hvm.symm hK1
  replace hw23 : True := hw23
  obtain ⟨hP, hD⟩ := va_join (wr := []) (w1 := [(zs, .inr (10, [.int 0, .ref (aK 0), .int 0, .int 0, .int 0, .null]))]) hP hD [0] [] rfl rfl (by decide) (by decide) hk1 hFc hP1 hD1
  have hK := (hK.sub (tys' := []) [] rfl).app hK1
  generalize H1 = H at hP hS ⊢
  replace hP : va_P (dC, dI) vwCl [(zs, .inr (10, [.int 0, .ref (aK 0), .int 0, .int 0, .int 0, .null]))] H := hP
  replace hD : va_D A [(zs, .inr (10, [.int 0, .ref (aK 0), .int 0, .int 0, .int 0, .null]))] := hD
  replace hK : va_K (dC, dI) vwCl [] s := hK
  clear hPc hDc hFc hKc hP1 hD1 hK1 hk1 hz1 ht hvm
  have hP9 := hP.sub (ws' := [(zs, .inr (10, [.int 0, .ref (aK 0), .int 0, .int 0, .int 0, .null]))]) [0] rfl
  have hD9 := hD.sub (ws' := [(zs, .inr (10, [.int 0, .ref (aK 0), .int 0, .int 0, .int 0, .null]))]) [0] (by decide) rfl
  have hK9 := hK.sub (tys' := []) [] rfl
  refine W.widen (k := 1) (n := 6) (Nat.le_of_ble_eq_true rfl) (Nat.le_of_ble_eq_true rfl) ?_
  exact W.aret (v := .ref zs) hx hb hr (Or.inl ⟨_, rfl⟩) (Or.inr ⟨_, rfl⟩) (fun t ht hW => ⟨⟨(), zs, rfl, trivial, ⟨by rw [ht]; exact hP9, va_K.moved hW.alike hK9, hD9⟩⟩, hS.F ht⟩) hS.2.2 d_SE_all_14
set_option maxHeartbeats 1000000 in
set_option maxRecDepth 100000 in
/-- named(null) -/
theorem k_SE_namedN (l : Launch) (dC : Nat → ClassId) (dI : Nat → Nat → Nat) (sz : Nat)  : Met l y_SE_named ws_SE_named ({ frames := 0, cells := 0, slots := 0, locals := 0 }) (va_Pc [.null] (fun U => U.heap.size = sz ∧ va_P (dC, dI) vwCl [] U.heap ∧ va_K (dC, dI) vwCl [] U ∧ va_D (fun _ => True) [])) (va_Qq (fun (r : Option Nat) (u : Unit) => r = none) (fun u t => va_P (dC, dI) vwCl [] t.heap ∧ va_K (dC, dI) vwCl [] t ∧ va_D (va_A [] sz) []) (va_A [] sz)) 0 0 (va_A [] sz) := by
  refine Met.ofW (cc := c_SE_named) (maxL := 1) (ret := (some (.object "PatchStore$Selector"))) (by decide) rfl ?_
  intro p e s m args below meth c s₁ B hml hv
  obtain ⟨rfl, hsz, hP, hK, hD0⟩ := hv
  have hx := B.exec
  have hb := B.bytes
  have hr := B.returns
  have hts := atoms_spec (ws := ws_SE_named) B.pre
  have htb := fun w (h : w ∈ TBL) => hts w (List.mem_cons_of_mem _ h)
  have hown : s.vm.findClass R_SE = some m.cls := findClass_of_methodNamed B.named
  have hlocks := B.notSynchronized
  subst hsz
  have hD := hD0.self (sz := s.heap.size)
  generalize hAe : va_A [] s.heap.size = A at hD ⊢
  have hA : ∀ q : Nat, s.heap.size ≤ q → A q := fun q h => by rw [← hAe]; exact Or.inr h
  have hS : va_S A s.heap s.heap [] := va_S.rf
  have hP : va_P (dC, dI) vwCl [] s.heap := hP
  have hl := lv_entry ([.null]) (n := 1) (Nat.le_of_ble_eq_true rfl)
  rw [lg_entry_eq]
  generalize (lg_sl ([.null]) ++ List.replicate (1 - (lg_sl ([.null])).length) Slot.unset).toArray = ls at hl ⊢
  replace hl : lv_has ls 1 [(0, .null)] := hl
  refine lv_aload_nN hx hb d_SE_named_0 rfl (lv_at hl 0 rfl) ?_
  refine lv_ifnonnullN hx hb d_SE_named_1 ?_
  refine lv_null hx hb d_SE_named_4 ?_
  refine lv_goto (tgt := 21) hx hb d_SE_named_5 rfl ?_
  have hP9 := hP.sub (ws' := []) [] rfl
  have hD9 := hD.sub (ws' := []) [] (by decide) rfl
  have hK9 := hK.sub (tys' := []) [] rfl
  refine W.widen (k := 0) (n := 0) (Nat.le_of_ble_eq_true rfl) (Nat.le_of_ble_eq_true rfl) ?_
  exact W.aret (v := .null) hx hb hr (Or.inl ⟨_, rfl⟩) (Or.inl rfl) (fun t ht hW => ⟨⟨none, (), rfl, rfl, ⟨by rw [ht]; exact hP9, va_K.moved hW.alike hK9, hD9⟩⟩, hS.F ht⟩) hS.2.2 d_SE_named_21
set_option maxHeartbeats 1000000 in
set_option maxRecDepth 100000 in
/-- named(name) -/
theorem k_SE_named (l : Launch) (dC : Nat → ClassId) (dI : Nat → Nat → Nat) (sz : Nat) (na : Nat) : Met l y_SE_named ws_SE_named ({ frames := 2, cells := 1, slots := 6, locals := 38 }) (va_Pc [.ref na] (fun U => U.heap.size = sz ∧ va_P (dC, dI) vwCl [] U.heap ∧ va_K (dC, dI) vwCl [] U ∧ va_D (fun _ => True) [])) (va_Qr (fun (u : Unit) => True) (fun u ra t => va_P (dC, dI) vwCl [(ra, .inr (10, [.int 1, .ref na, .int 0, .int 0, .int 0, .null]))] t.heap ∧ va_K (dC, dI) vwCl [] t ∧ va_D (va_A [] sz) [(ra, .inr (10, [.int 1, .ref na, .int 0, .int 0, .int 0, .null]))]) (va_A [] sz)) 1 6 (va_A [] sz) := by
  refine Met.ofW (cc := c_SE_named) (maxL := 1) (ret := (some (.object "PatchStore$Selector"))) (by decide) rfl ?_
  intro p e s m args below meth c s₁ B hml hv
  obtain ⟨rfl, hsz, hP, hK, hD0⟩ := hv
  have hx := B.exec
  have hb := B.bytes
  have hr := B.returns
  have hts := atoms_spec (ws := ws_SE_named) B.pre
  have htb := fun w (h : w ∈ TBL) => hts w (List.mem_cons_of_mem _ h)
  have hown : s.vm.findClass R_SE = some m.cls := findClass_of_methodNamed B.named
  have hlocks := B.notSynchronized
  subst hsz
  have hD := hD0.self (sz := s.heap.size)
  generalize hAe : va_A [] s.heap.size = A at hD ⊢
  have hA : ∀ q : Nat, s.heap.size ≤ q → A q := fun q h => by rw [← hAe]; exact Or.inr h
  have hS : va_S A s.heap s.heap [] := va_S.rf
  have hP : va_P (dC, dI) vwCl [] s.heap := hP
  have hl := lv_entry ([.ref na]) (n := 1) (Nat.le_of_ble_eq_true rfl)
  rw [lg_entry_eq]
  generalize (lg_sl ([.ref na]) ++ List.replicate (1 - (lg_sl ([.ref na])).length) Slot.unset).toArray = ls at hl ⊢
  replace hl : lv_has ls 1 [(0, .ref na)] := hl
  refine lv_aload_n hx hb d_SE_named_0 rfl (lv_at hl 0 rfl) ?_
  refine lv_ifnonnull (tgt := 8) hx hb d_SE_named_1 rfl ?_
  refine va_new (ci := 10) (fs := [.int 0, .null, .int 0, .int 0, .int 0, .null]) (C := R_SE) (T := T_SE) (N := 6) hx hb htb in_SE ty_SE ty_SE_ok hown (htb _ m_892) (htb _ m_893) (htb _ m_26) hK hP hD hS hA rfl (fun j hj => by rcases (show j = 0 ∨ j = 1 ∨ j = 2 ∨ j = 3 ∨ j = 4 ∨ j = 5 by omega) with rfl | rfl | rfl | rfl | rfl | rfl <;> rfl) (Nat.le_of_ble_eq_true rfl) (Nat.le_of_ble_eq_true rfl) d_SE_named_8 (fun zs H hP hD hS => ?_)
  replace hP : va_P (dC, dI) vwCl [(zs, .inr (10, [.int 0, .null, .int 0, .int 0, .int 0, .null]))] H := hP
  replace hD : va_D A [(zs, .inr (10, [.int 0, .null, .int 0, .int 0, .int 0, .null]))] := hD
  refine W.widen (k := 1) (n := 6) (Nat.le_of_ble_eq_true rfl) (Nat.le_of_ble_eq_true rfl) ?_
  refine lv_dup hx hb d_SE_named_11 rfl ?_
  refine lv_iconst (v := 1) hx hb d_SE_named_12 (by decide) ?_
  refine lv_aload_n hx hb d_SE_named_13 rfl (lv_at hl 0 rfl) ?_
  refine lv_iconst (v := 0) hx hb d_SE_named_14 (by decide) ?_
  refine lv_iconst (v := 0) hx hb d_SE_named_15 (by decide) ?_
  refine lv_iconst (v := 0) hx hb d_SE_named_16 (by decide) ?_
  refine lv_null hx hb d_SE_named_17 ?_
  have hPc := hP.sub (ws' := [(zs, .inr (10, [.int 0, .null, .int 0, .int 0, .int 0, .null]))]) [0] rfl
  have hDc := hD.sub (ws' := [(zs, .inr (10, [.int 0, .null, .int 0, .int 0, .int 0, .null]))]) [0] (by decide) rfl
  have hFc := va_free (wc := [(zs, .inr (10, [.int 0, .null, .int 0, .int 0, .int 0, .null]))]) hD hS hA [0] rfl
  have hKc := hK.sub (tys' := []) [] rfl
  refine va_callv (va_runI (As := [.int 1, .ref na, .int 0, .int 0, .int 0, .null]) (rest := [.ref zs]) ⟨hx, hb, hml, hown, htb⟩ (k_SE_initN l dC dI _ zs 1 na 0 0 0 ) (cwI 6 htb (g_all (fun _ h => h) m_897) rfl rfl rfl (htb _ m_26) (htb _ m_895) (htb _ m_896) rfl (by decide +kernel) ⟨Nat.le_of_ble_eq_true rfl, Nat.le_of_ble_eq_true rfl⟩) ⟨fun a U g mk q => by obtain ⟨q0, q1, qP, qK, qD⟩ := q; exact ⟨q0, q1, qP, va_K.moved (u := U) (U := U.calling g mk a) (Vm.Alike.refl U.vm) qK, qD⟩, fun U hU hW => ⟨rfl, by rw [hU], by rw [hU]; exact hPc, va_K.moved hW.alike hKc, hDc.weaken (fun _ _ _ _ => trivial)⟩⟩ rfl rfl hl.1 rfl (lv_room (Nat.le_of_ble_eq_true rfl)) d_SE_named_18 ⟨Nat.le_of_ble_eq_true rfl, Nat.le_of_ble_eq_true rfl⟩) hS (fun q _ h => hFc q h) hFc (fun u21 t H1 locs ht hvm hw23 hB hz1 hk1 hS => ?_)
  obtain ⟨hP1, hK1, hD1⟩ := hB
  rw [ht] at hP1
  have hK1 := va_K.moved hvm.symm hK1
  replace hw23 : True := hw23
  obtain ⟨hP, hD⟩ := va_join (wr := []) (w1 := [(zs, .inr (10, [.int 1, .ref na, .int 0, .int 0, .int 0, .null]))]) hP hD [0] [] rfl rfl (by decide) (by decide) hk1 hFc hP1 hD1
  have hK := (hK.sub (tys' := []) [] rfl).app hK1
  generalize H1 = H at hP hS ⊢
  replace hP : va_P (dC, dI) vwCl [(zs, .inr (10, [.int 1, .ref na, .int 0, .int 0, .int 0, .null]))] H := hP
  replace hD : va_D A [(zs, .inr (10, [.int 1, .ref na, .int 0, .int 0, .int 0, .null]))] := hD
  replace hK : va_K (dC, dI) vwCl [] s := hK
  clear hPc hDc hFc hKc hP1 hD1 hK1 hk1 hz1 ht hvm
  have hP9 := hP.sub (ws' := [(zs, .inr (10, [.int 1, .ref na, .int 0, .int 0, .int 0, .null]))]) [0] rfl
  have hD9 := hD.sub (ws' := [(zs, .inr (10, [.int 1, .ref na, .int 0, .int 0, .int 0, .null]))]) [0] (by decide) rfl
  have hK9 := hK.sub (tys' := []) [] rfl
  refine W.widen (k := 1) (n := 6) (Nat.le_of_ble_eq_true rfl) (Nat.le_of_ble_eq_true rfl) ?_
  exact W.aret (v := .ref zs) hx hb hr (Or.inl ⟨_, rfl⟩) (Or.inr ⟨_, rfl⟩) (fun t ht hW => ⟨⟨(), zs, rfl, trivial, ⟨by rw [ht]; exact hP9, va_K.moved hW.alike hK9, hD9⟩⟩, hS.F ht⟩) hS.2.2 d_SE_named_21
set_option maxHeartbeats 1000000 in
set_option maxRecDepth 100000 in
/-- indexed, where none is -/
theorem k_SE_indexedN (l : Launch) (dC : Nat → ClassId) (dI : Nat → Nat → Nat) (sz : Nat) (v : Int32) (hv : v = 1000 ∨ v = 1001) : Met l y_SE_indexed ws_SE_indexed ({ frames := 0, cells := 0, slots := 0, locals := 0 }) (va_Pc [.int v] (fun U => U.heap.size = sz ∧ va_P (dC, dI) vwCl [] U.heap ∧ va_K (dC, dI) vwCl [] U ∧ va_D (fun _ => True) [])) (va_Qq (fun (r : Option Nat) (u : Unit) => r = none) (fun u t => va_P (dC, dI) vwCl [] t.heap ∧ va_K (dC, dI) vwCl [] t ∧ va_D (va_A [] sz) []) (va_A [] sz)) 0 0 (va_A [] sz) := by
  refine Met.ofW (cc := c_SE_indexed) (maxL := 1) (ret := (some (.object "PatchStore$Selector"))) (by decide) rfl ?_
  intro p e s m args below meth c s₁ B hml hv
  obtain ⟨rfl, hsz, hP, hK, hD0⟩ := hv
  have hx := B.exec
  have hb := B.bytes
  have hr := B.returns
  have hts := atoms_spec (ws := ws_SE_indexed) B.pre
  have htb := fun w (h : w ∈ TBL) => hts w (List.mem_cons_of_mem _ h)
  have hown : s.vm.findClass R_SE = some m.cls := findClass_of_methodNamed B.named
  have hlocks := B.notSynchronized
  subst hsz
  have hD := hD0.self (sz := s.heap.size)
  generalize hAe : va_A [] s.heap.size = A at hD ⊢
  have hA : ∀ q : Nat, s.heap.size ≤ q → A q := fun q h => by rw [← hAe]; exact Or.inr h
  have hS : va_S A s.heap s.heap [] := va_S.rf
  have hP : va_P (dC, dI) vwCl [] s.heap := hP
  have hl := lv_entry ([.int v]) (n := 1) (Nat.le_of_ble_eq_true rfl)
  rw [lg_entry_eq]
  generalize (lg_sl ([.int v]) ++ List.replicate (1 - (lg_sl ([.int v])).length) Slot.unset).toArray = ls at hl ⊢
  replace hl : lv_has ls 1 [(0, .int v)] := hl
  refine lv_iload_n hx hb d_SE_indexed_0 rfl (lv_at hl 0 rfl) ?_
  refine lv_sipush (v := 1000) hx hb d_SE_indexed_1 (by decide) ?_
  refine lv_icmp_eq (tgt := 14) hx hb d_SE_indexed_4 rfl (fun h1 => ?_) (fun h1 => ?_)
  · refine lv_null hx hb d_SE_indexed_14 ?_
    refine lv_goto (tgt := 32) hx hb d_SE_indexed_15 rfl ?_
    have hP9 := hP.sub (ws' := []) [] rfl
    have hD9 := hD.sub (ws' := []) [] (by decide) rfl
    have hK9 := hK.sub (tys' := []) [] rfl
    refine W.widen (k := 0) (n := 0) (Nat.le_of_ble_eq_true rfl) (Nat.le_of_ble_eq_true rfl) ?_
    exact W.aret (v := .null) hx hb hr (Or.inl ⟨_, rfl⟩) (Or.inl rfl) (fun t ht hW => ⟨⟨none, (), rfl, rfl, ⟨by rw [ht]; exact hP9, va_K.moved hW.alike hK9, hD9⟩⟩, hS.F ht⟩) hS.2.2 d_SE_indexed_32
  · refine lv_iload_n hx hb d_SE_indexed_7 rfl (lv_at hl 0 rfl) ?_
    refine lv_sipush (v := 1001) hx hb d_SE_indexed_8 (by decide) ?_
    refine lv_icmp_ne (tgt := 18) hx hb d_SE_indexed_11 rfl (fun h9 => absurd (hv.resolve_left h1) h9) (fun _ => ?_)
    refine lv_null hx hb d_SE_indexed_14 ?_
    refine lv_goto (tgt := 32) hx hb d_SE_indexed_15 rfl ?_
    have hP9 := hP.sub (ws' := []) [] rfl
    have hD9 := hD.sub (ws' := []) [] (by decide) rfl
    have hK9 := hK.sub (tys' := []) [] rfl
    refine W.widen (k := 0) (n := 0) (Nat.le_of_ble_eq_true rfl) (Nat.le_of_ble_eq_true rfl) ?_
    exact W.aret (v := .null) hx hb hr (Or.inl ⟨_, rfl⟩) (Or.inl rfl) (fun t ht hW => ⟨⟨none, (), rfl, rfl, ⟨by rw [ht]; exact hP9, va_K.moved hW.alike hK9, hD9⟩⟩, hS.F ht⟩) hS.2.2 d_SE_indexed_32
set_option maxHeartbeats 1000000 in
set_option maxRecDepth 100000 in
/-- indexed(index) -/
theorem k_SE_indexed (l : Launch) (dC : Nat → ClassId) (dI : Nat → Nat → Nat) (sz : Nat) (v : Int32) (em : Nat) (aK : Nat → Nat) (aV : Nat → Nat) (hv : ¬ v = 1000) (hv1 : ¬ v = 1001) : Met l y_SE_indexed ws_SE_indexed ({ frames := 2, cells := 1, slots := 6, locals := 38 }) (va_Pc [.int v] (fun U => U.heap.size = sz ∧ va_P (dC, dI) vwCl [] U.heap ∧ va_K (dC, dI) vwCl [] U ∧ va_D (fun _ => True) [] ∧ EX em aK aV (va_A [] sz) U U.heap)) (va_Qr (fun (u : Unit) => True) (fun u ra t => va_P (dC, dI) vwCl [(ra, .inr (10, [.int 2, .ref (aK 0), .int v, .int 0, .int 0, .null]))] t.heap ∧ va_K (dC, dI) vwCl [] t ∧ va_D (va_A [] sz) [(ra, .inr (10, [.int 2, .ref (aK 0), .int v, .int 0, .int 0, .null]))]) (va_A [] sz)) 1 6 (va_A [] sz) := by
  refine Met.ofW (cc := c_SE_indexed) (maxL := 1) (ret := (some (.object "PatchStore$Selector"))) (by decide) rfl ?_
  intro p e s m args below meth c s₁ B hml hv
  obtain ⟨rfl, hsz, hP, hK, hD0, hE⟩ := hv
  have hx := B.exec
  have hb := B.bytes
  have hr := B.returns
  have hts := atoms_spec (ws := ws_SE_indexed) B.pre
  have htb := fun w (h : w ∈ TBL) => hts w (List.mem_cons_of_mem _ h)
  have hown : s.vm.findClass R_SE = some m.cls := findClass_of_methodNamed B.named
  have hlocks := B.notSynchronized
  subst hsz
  have hD := hD0.self (sz := s.heap.size)
  generalize hAe : va_A [] s.heap.size = A at hD hE ⊢
  have hA : ∀ q : Nat, s.heap.size ≤ q → A q := fun q h => by rw [← hAe]; exact Or.inr h
  have hS : va_S A s.heap s.heap [] := va_S.rf
  have hP : va_P (dC, dI) vwCl [] s.heap := hP
  have hl := lv_entry ([.int v]) (n := 1) (Nat.le_of_ble_eq_true rfl)
  rw [lg_entry_eq]
  generalize (lg_sl ([.int v]) ++ List.replicate (1 - (lg_sl ([.int v])).length) Slot.unset).toArray = ls at hl ⊢
  replace hl : lv_has ls 1 [(0, .int v)] := hl
  refine lv_iload_n hx hb d_SE_indexed_0 rfl (lv_at hl 0 rfl) ?_
  refine lv_sipush (v := 1000) hx hb d_SE_indexed_1 (by decide) ?_
  refine lv_icmp_eq (tgt := 14) hx hb d_SE_indexed_4 rfl (fun h9 => absurd h9 (hv)) (fun _ => ?_)
  refine lv_iload_n hx hb d_SE_indexed_7 rfl (lv_at hl 0 rfl) ?_
  refine lv_sipush (v := 1001) hx hb d_SE_indexed_8 (by decide) ?_
  refine lv_icmp_ne (tgt := 18) hx hb d_SE_indexed_11 rfl (fun _ => ?_) (fun h9 => absurd h9 (hv1))
  refine va_new (ci := 10) (fs := [.int 0, .null, .int 0, .int 0, .int 0, .null]) (C := R_SE) (T := T_SE) (N := 6) hx hb htb in_SE ty_SE ty_SE_ok hown (htb _ m_892) (htb _ m_893) (htb _ m_26) hK hP hD hS hA rfl (fun j hj => by rcases (show j = 0 ∨ j = 1 ∨ j = 2 ∨ j = 3 ∨ j = 4 ∨ j = 5 by omega) with rfl | rfl | rfl | rfl | rfl | rfl <;> rfl) (Nat.le_of_ble_eq_true rfl) (Nat.le_of_ble_eq_true rfl) d_SE_indexed_18 (fun zs H hP hD hS => ?_)
  replace hP : va_P (dC, dI) vwCl [(zs, .inr (10, [.int 0, .null, .int 0, .int 0, .int 0, .null]))] H := hP
  replace hD : va_D A [(zs, .inr (10, [.int 0, .null, .int 0, .int 0, .int 0, .null]))] := hD
  refine W.widen (k := 1) (n := 6) (Nat.le_of_ble_eq_true rfl) (Nat.le_of_ble_eq_true rfl) ?_
  refine lv_dup hx hb d_SE_indexed_21 rfl ?_
  refine lv_iconst (v := 2) hx hb d_SE_indexed_22 (by decide) ?_
  refine va_ldcS hx hb hown (lr_20 hE) d_SE_indexed_23 ?_
  refine lv_iload_n hx hb d_SE_indexed_25 rfl (lv_at hl 0 rfl) ?_
  refine lv_iconst (v := 0) hx hb d_SE_indexed_26 (by decide) ?_
  refine lv_iconst (v := 0) hx hb d_SE_indexed_27 (by decide) ?_
  refine lv_null hx hb d_SE_indexed_28 ?_
  have hPc := hP.sub (ws' := [(zs, .inr (10, [.int 0, .null, .int 0, .int 0, .int 0, .null]))]) [0] rfl
  have hDc := hD.sub (ws' := [(zs, .inr (10, [.int 0, .null, .int 0, .int 0, .int 0, .null]))]) [0] (by decide) rfl
  have hFc := va_free (wc := [(zs, .inr (10, [.int 0, .null, .int 0, .int 0, .int 0, .null]))]) hD hS hA [0] rfl
  have hKc := hK.sub (tys' := []) [] rfl
  refine va_callv (va_runI (As := [.int 2, .ref (aK 0), .int v, .int 0, .int 0, .null]) (rest := [.ref zs]) ⟨hx, hb, hml, hown, htb⟩ (k_SE_initN l dC dI _ zs 2 (aK 0) v 0 0 ) (cwI 6 htb (g_all (fun _ h => h) m_897) rfl rfl rfl (htb _ m_26) (htb _ m_895) (htb _ m_896) rfl (by decide +kernel) ⟨Nat.le_of_ble_eq_true rfl, Nat.le_of_ble_eq_true rfl⟩) ⟨fun a U g mk q => by obtain ⟨q0, q1, qP, qK, qD⟩ := q; exact ⟨q0, q1, qP, va_K.moved (u := U) (U := U.calling g mk a) (Vm.Alike.refl U.vm) qK, qD⟩, fun U hU hW => ⟨rfl, by rw [hU], by rw [hU]; exact hPc, va_K.moved hW.alike hKc, hDc.weaken (fun _ _ _ _ => trivial)⟩⟩ rfl rfl hl.1 rfl (lv_room (Nat.le_of_ble_eq_true rfl)) d_SE_indexed_29 ⟨Nat.le_of_ble_eq_true rfl, Nat.le_of_ble_eq_true rfl⟩) hS (fun q _ h => hFc q h) hFc (fun u21 t H1 locs ht hvm hw23 hB hz1 hk1 hS => ?_)
  obtain ⟨hP1, hK1, hD1⟩ := hB
  rw [ht] at hP1
  have hK1 := va_K.moved hvm.symm hK1
  replace hw23 : True := hw23
  obtain ⟨hP, hD⟩ := va_join (wr := []) (w1 := [(zs, .inr (10, [.int 2, .ref (aK 0), .int v, .int 0, .int 0, .null]))]) hP hD [0] [] rfl rfl (by decide) (by decide) hk1 hFc hP1 hD1
  have hK := (hK.sub (tys' := []) [] rfl).app hK1
  generalize H1 = H at hP hS ⊢
  replace hP : va_P (dC, dI) vwCl [(zs, .inr (10, [.int 2, .ref (aK 0), .int v, .int 0, .int 0, .null]))] H := hP
  replace hD : va_D A [(zs, .inr (10, [.int 2, .ref (aK 0), .int v, .int 0, .int 0, .null]))] := hD
  replace hK : va_K (dC, dI) vwCl [] s := hK
  clear hPc hDc hFc hKc hP1 hD1 hK1 hk1 hz1 ht hvm
  have hP9 := hP.sub (ws' := [(zs, .inr (10, [.int 2, .ref (aK 0), .int v, .int 0, .int 0, .null]))]) [0] rfl
  have hD9 := hD.sub (ws' := [(zs, .inr (10, [.int 2, .ref (aK 0), .int v, .int 0, .int 0, .null]))]) [0] (by decide) rfl
  have hK9 := hK.sub (tys' := []) [] rfl
  refine W.widen (k := 1) (n := 6) (Nat.le_of_ble_eq_true rfl) (Nat.le_of_ble_eq_true rfl) ?_
  exact W.aret (v := .ref zs) hx hb hr (Or.inl ⟨_, rfl⟩) (Or.inr ⟨_, rfl⟩) (fun t ht hW => ⟨⟨(), zs, rfl, trivial, ⟨by rw [ht]; exact hP9, va_K.moved hW.alike hK9, hD9⟩⟩, hS.F ht⟩) hS.2.2 d_SE_indexed_32
set_option maxHeartbeats 1000000 in
set_option maxRecDepth 100000 in
/-- slice, where an index is broken -/
theorem k_SE_sliceN (l : Launch) (dC : Nat → ClassId) (dI : Nat → Nat → Nat) (sz : Nat) (v1 : Int32) (v2 : Int32) (v3 : Int32) (hv : v1 = 1001 ∨ v2 = 1001 ∨ v3 = 1001) : Met l y_SE_slice ws_SE_slice ({ frames := 0, cells := 0, slots := 0, locals := 0 }) (va_Pc [.int v1, .int v2, .int v3] (fun U => U.heap.size = sz ∧ va_P (dC, dI) vwCl [] U.heap ∧ va_K (dC, dI) vwCl [] U ∧ va_D (fun _ => True) [])) (va_Qq (fun (r : Option Nat) (u : Unit) => r = none) (fun u t => va_P (dC, dI) vwCl [] t.heap ∧ va_K (dC, dI) vwCl [] t ∧ va_D (va_A [] sz) []) (va_A [] sz)) 0 0 (va_A [] sz) := by
  refine Met.ofW (cc := c_SE_slice) (maxL := 4) (ret := (some (.object "PatchStore$Selector"))) (by decide) rfl ?_
  intro p e s m args below meth c s₁ B hml hv
  obtain ⟨rfl, hsz, hP, hK, hD0⟩ := hv
  have hx := B.exec
  have hb := B.bytes
  have hr := B.returns
  have hts := atoms_spec (ws := ws_SE_slice) B.pre
  have htb := fun w (h : w ∈ TBL) => hts w (List.mem_cons_of_mem _ h)
  have hown : s.vm.findClass R_SE = some m.cls := findClass_of_methodNamed B.named
  have hlocks := B.notSynchronized
  subst hsz
  have hD := hD0.self (sz := s.heap.size)
  generalize hAe : va_A [] s.heap.size = A at hD ⊢
  have hA : ∀ q : Nat, s.heap.size ≤ q → A q := fun q h => by rw [← hAe]; exact Or.inr h
  have hS : va_S A s.heap s.heap [] := va_S.rf
  have hP : va_P (dC, dI) vwCl [] s.heap := hP
  have hl := lv_entry ([.int v1, .int v2, .int v3]) (n := 4) (Nat.le_of_ble_eq_true rfl)
  rw [lg_entry_eq]
  generalize (lg_sl ([.int v1, .int v2, .int v3]) ++ List.replicate (4 - (lg_sl ([.int v1, .int v2, .int v3])).length) Slot.unset).toArray = ls at hl ⊢
  replace hl : lv_has ls 4 [(0, .int v1), (1, .int v2), (2, .int v3)] := hl
  refine lv_iload_n hx hb d_SE_slice_0 rfl (lv_at hl 0 rfl) ?_
  refine lv_sipush (v := 1001) hx hb d_SE_slice_1 (by decide) ?_
  refine lv_icmp_eq (tgt := 21) hx hb d_SE_slice_4 rfl (fun h1 => ?_) (fun h1 => ?_)
  · refine lv_iconst (v := 1) hx hb d_SE_slice_21 (by decide) ?_
    refine lv_goto (tgt := 26) hx hb d_SE_slice_22 rfl ?_
    refine lv_istore_n hx hb d_SE_slice_26 rfl hl (by decide) rfl (fun ls hl => ?_)
    replace hl : lv_has ls 4 [(3, .int 1), (0, .int v1), (1, .int v2), (2, .int v3)] := hl
    refine lv_iload_n hx hb d_SE_slice_27 rfl (lv_at hl 0 rfl) ?_
    refine lv_if_eq (tgt := 35) hx hb d_SE_slice_28 rfl (fun h9 => absurd h9 (by decide)) (fun _ => ?_)
    refine lv_null hx hb d_SE_slice_31 ?_
    refine lv_goto (tgt := 49) hx hb d_SE_slice_32 rfl ?_
    have hP9 := hP.sub (ws' := []) [] rfl
    have hD9 := hD.sub (ws' := []) [] (by decide) rfl
    have hK9 := hK.sub (tys' := []) [] rfl
    refine W.widen (k := 0) (n := 0) (Nat.le_of_ble_eq_true rfl) (Nat.le_of_ble_eq_true rfl) ?_
    exact W.aret (v := .null) hx hb hr (Or.inl ⟨_, rfl⟩) (Or.inl rfl) (fun t ht hW => ⟨⟨none, (), rfl, rfl, ⟨by rw [ht]; exact hP9, va_K.moved hW.alike hK9, hD9⟩⟩, hS.F ht⟩) hS.2.2 d_SE_slice_49
  · refine lv_iload_n hx hb d_SE_slice_7 rfl (lv_at hl 1 rfl) ?_
    refine lv_sipush (v := 1001) hx hb d_SE_slice_8 (by decide) ?_
    refine lv_icmp_eq (tgt := 21) hx hb d_SE_slice_11 rfl (fun h2 => ?_) (fun h2 => ?_)
    · refine lv_iconst (v := 1) hx hb d_SE_slice_21 (by decide) ?_
      refine lv_goto (tgt := 26) hx hb d_SE_slice_22 rfl ?_
      refine lv_istore_n hx hb d_SE_slice_26 rfl hl (by decide) rfl (fun ls hl => ?_)
      replace hl : lv_has ls 4 [(3, .int 1), (0, .int v1), (1, .int v2), (2, .int v3)] := hl
      refine lv_iload_n hx hb d_SE_slice_27 rfl (lv_at hl 0 rfl) ?_
      refine lv_if_eq (tgt := 35) hx hb d_SE_slice_28 rfl (fun h9 => absurd h9 (by decide)) (fun _ => ?_)
      refine lv_null hx hb d_SE_slice_31 ?_
      refine lv_goto (tgt := 49) hx hb d_SE_slice_32 rfl ?_
      have hP9 := hP.sub (ws' := []) [] rfl
      have hD9 := hD.sub (ws' := []) [] (by decide) rfl
      have hK9 := hK.sub (tys' := []) [] rfl
      refine W.widen (k := 0) (n := 0) (Nat.le_of_ble_eq_true rfl) (Nat.le_of_ble_eq_true rfl) ?_
      exact W.aret (v := .null) hx hb hr (Or.inl ⟨_, rfl⟩) (Or.inl rfl) (fun t ht hW => ⟨⟨none, (), rfl, rfl, ⟨by rw [ht]; exact hP9, va_K.moved hW.alike hK9, hD9⟩⟩, hS.F ht⟩) hS.2.2 d_SE_slice_49
    · refine lv_iload_n hx hb d_SE_slice_14 rfl (lv_at hl 2 rfl) ?_
      refine lv_sipush (v := 1001) hx hb d_SE_slice_15 (by decide) ?_
      refine lv_icmp_ne (tgt := 25) hx hb d_SE_slice_18 rfl (fun h9 => absurd ((hv.resolve_left h1).resolve_left h2) h9) (fun _ => ?_)
      refine lv_iconst (v := 1) hx hb d_SE_slice_21 (by decide) ?_
      refine lv_goto (tgt := 26) hx hb d_SE_slice_22 rfl ?_
      refine lv_istore_n hx hb d_SE_slice_26 rfl hl (by decide) rfl (fun ls hl => ?_)
      replace hl : lv_has ls 4 [(3, .int 1), (0, .int v1), (1, .int v2), (2, .int v3)] := hl
      refine lv_iload_n hx hb d_SE_slice_27 rfl (lv_at hl 0 rfl) ?_
      refine lv_if_eq (tgt := 35) hx hb d_SE_slice_28 rfl (fun h9 => absurd h9 (by decide)) (fun _ => ?_)
      refine lv_null hx hb d_SE_slice_31 ?_
      refine lv_goto (tgt := 49) hx hb d_SE_slice_32 rfl ?_
      have hP9 := hP.sub (ws' := []) [] rfl
      have hD9 := hD.sub (ws' := []) [] (by decide) rfl
      have hK9 := hK.sub (tys' := []) [] rfl
      refine W.widen (k := 0) (n := 0) (Nat.le_of_ble_eq_true rfl) (Nat.le_of_ble_eq_true rfl) ?_
      exact W.aret (v := .null) hx hb hr (Or.inl ⟨_, rfl⟩) (Or.inl rfl) (fun t ht hW => ⟨⟨none, (), rfl, rfl, ⟨by rw [ht]; exact hP9, va_K.moved hW.alike hK9, hD9⟩⟩, hS.F ht⟩) hS.2.2 d_SE_slice_49
set_option maxHeartbeats 1000000 in
set_option maxRecDepth 100000 in
/-- slice(from, to, pace) -/
theorem k_SE_slice (l : Launch) (dC : Nat → ClassId) (dI : Nat → Nat → Nat) (sz : Nat) (v1 : Int32) (v2 : Int32) (v3 : Int32) (em : Nat) (aK : Nat → Nat) (aV : Nat → Nat) (hv1 : ¬ v1 = 1001) (hv2 : ¬ v2 = 1001) (hv3 : ¬ v3 = 1001) : Met l y_SE_slice ws_SE_slice ({ frames := 2, cells := 1, slots := 6, locals := 38 }) (va_Pc [.int v1, .int v2, .int v3] (fun U => U.heap.size = sz ∧ va_P (dC, dI) vwCl [] U.heap ∧ va_K (dC, dI) vwCl [] U ∧ va_D (fun _ => True) [] ∧ EX em aK aV (va_A [] sz) U U.heap)) (va_Qr (fun (u : Unit) => True) (fun u ra t => va_P (dC, dI) vwCl [(ra, .inr (10, [.int 3, .ref (aK 0), .int v1, .int v2, .int v3, .null]))] t.heap ∧ va_K (dC, dI) vwCl [] t ∧ va_D (va_A [] sz) [(ra, .inr (10, [.int 3, .ref (aK 0), .int v1, .int v2, .int v3, .null]))]) (va_A [] sz)) 1 6 (va_A [] sz) := by
  refine Met.ofW (cc := c_SE_slice) (maxL := 4) (ret := (some (.object "PatchStore$Selector"))) (by decide) rfl ?_
  intro p e s m args below meth c s₁ B hml hv
  obtain ⟨rfl, hsz, hP, hK, hD0, hE⟩ := hv
  have hx := B.exec
  have hb := B.bytes
  have hr := B.returns
  have hts := atoms_spec (ws := ws_SE_slice) B.pre
  have htb := fun w (h : w ∈ TBL) => hts w (List.mem_cons_of_mem _ h)
  have hown : s.vm.findClass R_SE = some m.cls := findClass_of_methodNamed B.named
  have hlocks := B.notSynchronized
  subst hsz
  have hD := hD0.self (sz := s.heap.size)
  generalize hAe : va_A [] s.heap.size = A at hD hE ⊢
  have hA : ∀ q : Nat, s.heap.size ≤ q → A q := fun q h => by rw [← hAe]; exact Or.inr h
  have hS : va_S A s.heap s.heap [] := va_S.rf
  have hP : va_P (dC, dI) vwCl [] s.heap := hP
  have hl := lv_entry ([.int v1, .int v2, .int v3]) (n := 4) (Nat.le_of_ble_eq_true rfl)
  rw [lg_entry_eq]
  generalize (lg_sl ([.int v1, .int v2, .int v3]) ++ List.replicate (4 - (lg_sl ([.int v1, .int v2, .int v3])).length) Slot.unset).toArray = ls at hl ⊢
  replace hl : lv_has ls 4 [(0, .int v1), (1, .int v2), (2, .int v3)] := hl
  refine lv_iload_n hx hb d_SE_slice_0 rfl (lv_at hl 0 rfl) ?_
  refine lv_sipush (v := 1001) hx hb d_SE_slice_1 (by decide) ?_
  refine lv_icmp_eq (tgt := 21) hx hb d_SE_slice_4 rfl (fun h9 => absurd h9 (hv1)) (fun _ => ?_)
  refine lv_iload_n hx hb d_SE_slice_7 rfl (lv_at hl 1 rfl) ?_
  refine lv_sipush (v := 1001) hx hb d_SE_slice_8 (by decide) ?_
  refine lv_icmp_eq (tgt := 21) hx hb d_SE_slice_11 rfl (fun h9 => absurd h9 (hv2)) (fun _ => ?_)
  refine lv_iload_n hx hb d_SE_slice_14 rfl (lv_at hl 2 rfl) ?_
  refine lv_sipush (v := 1001) hx hb d_SE_slice_15 (by decide) ?_
  refine lv_icmp_ne (tgt := 25) hx hb d_SE_slice_18 rfl (fun _ => ?_) (fun h9 => absurd h9 (hv3))
  refine lv_iconst (v := 0) hx hb d_SE_slice_25 (by decide) ?_
  refine lv_istore_n hx hb d_SE_slice_26 rfl hl (by decide) rfl (fun ls hl => ?_)
  replace hl : lv_has ls 4 [(3, .int 0), (0, .int v1), (1, .int v2), (2, .int v3)] := hl
  refine lv_iload_n hx hb d_SE_slice_27 rfl (lv_at hl 0 rfl) ?_
  refine lv_if_eq (tgt := 35) hx hb d_SE_slice_28 rfl (fun _ => ?_) (fun h9 => absurd (rfl) h9)
  refine va_new (ci := 10) (fs := [.int 0, .null, .int 0, .int 0, .int 0, .null]) (C := R_SE) (T := T_SE) (N := 6) hx hb htb in_SE ty_SE ty_SE_ok hown (htb _ m_892) (htb _ m_893) (htb _ m_26) hK hP hD hS hA rfl (fun j hj => by rcases (show j = 0 ∨ j = 1 ∨ j = 2 ∨ j = 3 ∨ j = 4 ∨ j = 5 by omega) with rfl | rfl | rfl | rfl | rfl | rfl <;> rfl) (Nat.le_of_ble_eq_true rfl) (Nat.le_of_ble_eq_true rfl) d_SE_slice_35 (fun zs H hP hD hS => ?_)
  replace hP : va_P (dC, dI) vwCl [(zs, .inr (10, [.int 0, .null, .int 0, .int 0, .int 0, .null]))] H := hP
  replace hD : va_D A [(zs, .inr (10, [.int 0, .null, .int 0, .int 0, .int 0, .null]))] := hD
  refine W.widen (k := 1) (n := 6) (Nat.le_of_ble_eq_true rfl) (Nat.le_of_ble_eq_true rfl) ?_
  refine lv_dup hx hb d_SE_slice_38 rfl ?_
  refine lv_iconst (v := 3) hx hb d_SE_slice_39 (by decide) ?_
  refine va_ldcS hx hb hown (lr_20 hE) d_SE_slice_40 ?_
  refine lv_iload_n hx hb d_SE_slice_42 rfl (lv_at hl 1 rfl) ?_
  refine lv_iload_n hx hb d_SE_slice_43 rfl (lv_at hl 2 rfl) ?_
  refine lv_iload_n hx hb d_SE_slice_44 rfl (lv_at hl 3 rfl) ?_
  refine lv_null hx hb d_SE_slice_45 ?_
  have hPc := hP.sub (ws' := [(zs, .inr (10, [.int 0, .null, .int 0, .int 0, .int 0, .null]))]) [0] rfl
  have hDc := hD.sub (ws' := [(zs, .inr (10, [.int 0, .null, .int 0, .int 0, .int 0, .null]))]) [0] (by decide) rfl
  have hFc := va_free (wc := [(zs, .inr (10, [.int 0, .null, .int 0, .int 0, .int 0, .null]))]) hD hS hA [0] rfl
  have hKc := hK.sub (tys' := []) [] rfl
  refine va_callv (va_runI (As := [.int 3, .ref (aK 0), .int v1, .int v2, .int v3, .null]) (rest := [.ref zs]) ⟨hx, hb, hml, hown, htb⟩ (k_SE_initN l dC dI _ zs 3 (aK 0) v1 v2 v3 ) (cwI 6 htb (g_all (fun _ h => h) m_897) rfl rfl rfl (htb _ m_26) (htb _ m_895) (htb _ m_896) rfl (by decide +kernel) ⟨Nat.le_of_ble_eq_true rfl, Nat.le_of_ble_eq_true rfl⟩) ⟨fun a U g mk q => by obtain ⟨q0, q1, qP, qK, qD⟩ := q; exact ⟨q0, q1, qP, va_K.moved (u := U) (U := U.calling g mk a) (Vm.Alike.refl U.vm) qK, qD⟩, fun U hU hW => ⟨rfl, by rw [hU], by rw [hU]; exact hPc, va_K.moved hW.alike hKc, hDc.weaken (fun _ _ _ _ => trivial)⟩⟩ rfl rfl hl.1 rfl (lv_room (Nat.le_of_ble_eq_true rfl)) d_SE_slice_46 ⟨Nat.le_of_ble_eq_true rfl, Nat.le_of_ble_eq_true rfl⟩) hS (fun q _ h => hFc q h) hFc (fun u21 t H1 locs ht hvm hw23 hB hz1 hk1 hS => ?_)
  obtain ⟨hP1, hK1, hD1⟩ := hB
  rw [ht] at hP1
  have hK1 := va_K.moved hvm.symm hK1
  replace hw23 : True := hw23
  obtain ⟨hP, hD⟩ := va_join (wr := []) (w1 := [(zs, .inr (10, [.int 3, .ref (aK 0), .int v1, .int v2, .int v3, .null]))]) hP hD [0] [] rfl rfl (by decide) (by decide) hk1 hFc hP1 hD1
  have hK := (hK.sub (tys' := []) [] rfl).app hK1
  generalize H1 = H at hP hS ⊢
  replace hP : va_P (dC, dI) vwCl [(zs, .inr (10, [.int 3, .ref (aK 0), .int v1, .int v2, .int v3, .null]))] H := hP
  replace hD : va_D A [(zs, .inr (10, [.int 3, .ref (aK 0), .int v1, .int v2, .int v3, .null]))] := hD
  replace hK : va_K (dC, dI) vwCl [] s := hK
  clear hPc hDc hFc hKc hP1 hD1 hK1 hk1 hz1 ht hvm
  have hP9 := hP.sub (ws' := [(zs, .inr (10, [.int 3, .ref (aK 0), .int v1, .int v2, .int v3, .null]))]) [0] rfl
  have hD9 := hD.sub (ws' := [(zs, .inr (10, [.int 3, .ref (aK 0), .int v1, .int v2, .int v3, .null]))]) [0] (by decide) rfl
  have hK9 := hK.sub (tys' := []) [] rfl
  refine W.widen (k := 1) (n := 6) (Nat.le_of_ble_eq_true rfl) (Nat.le_of_ble_eq_true rfl) ?_
  exact W.aret (v := .ref zs) hx hb hr (Or.inl ⟨_, rfl⟩) (Or.inr ⟨_, rfl⟩) (fun t ht hW => ⟨⟨(), zs, rfl, trivial, ⟨by rw [ht]; exact hP9, va_K.moved hW.alike hK9, hD9⟩⟩, hS.F ht⟩) hS.2.2 d_SE_slice_49
set_option maxHeartbeats 1000000 in
set_option maxRecDepth 100000 in
/-- tested(null) -/
theorem k_SE_testedN (l : Launch) (dC : Nat → ClassId) (dI : Nat → Nat → Nat) (sz : Nat)  : Met l y_SE_tested ws_SE_tested ({ frames := 0, cells := 0, slots := 0, locals := 0 }) (va_Pc [.null] (fun U => U.heap.size = sz ∧ va_P (dC, dI) vwCl [] U.heap ∧ va_K (dC, dI) vwCl [] U ∧ va_D (fun _ => True) [])) (va_Qq (fun (r : Option Nat) (u : Unit) => r = none) (fun u t => va_P (dC, dI) vwCl [] t.heap ∧ va_K (dC, dI) vwCl [] t ∧ va_D (va_A [] sz) []) (va_A [] sz)) 0 0 (va_A [] sz) := by
  refine Met.ofW (cc := c_SE_tested) (maxL := 1) (ret := (some (.object "PatchStore$Selector"))) (by decide) rfl ?_
  intro p e s m args below meth c s₁ B hml hv
  obtain ⟨rfl, hsz, hP, hK, hD0⟩ := hv
  have hx := B.exec
  have hb := B.bytes
  have hr := B.returns
  have hts := atoms_spec (ws := ws_SE_tested) B.pre
  have htb := fun w (h : w ∈ TBL) => hts w (List.mem_cons_of_mem _ h)
  have hown : s.vm.findClass R_SE = some m.cls := findClass_of_methodNamed B.named
  have hlocks := B.notSynchronized
  subst hsz
  have hD := hD0.self (sz := s.heap.size)
  generalize hAe : va_A [] s.heap.size = A at hD ⊢
  have hA : ∀ q : Nat, s.heap.size ≤ q → A q := fun q h => by rw [← hAe]; exact Or.inr h
  have hS : va_S A s.heap s.heap [] := va_S.rf
  have hP : va_P (dC, dI) vwCl [] s.heap := hP
  have hl := lv_entry ([.null]) (n := 1) (Nat.le_of_ble_eq_true rfl)
  rw [lg_entry_eq]
  generalize (lg_sl ([.null]) ++ List.replicate (1 - (lg_sl ([.null])).length) Slot.unset).toArray = ls at hl ⊢
  replace hl : lv_has ls 1 [(0, .null)] := hl
  refine lv_aload_nN hx hb d_SE_tested_0 rfl (lv_at hl 0 rfl) ?_
  refine lv_ifnonnullN hx hb d_SE_tested_1 ?_
  refine lv_null hx hb d_SE_tested_4 ?_
  refine lv_goto (tgt := 22) hx hb d_SE_tested_5 rfl ?_
  have hP9 := hP.sub (ws' := []) [] rfl
  have hD9 := hD.sub (ws' := []) [] (by decide) rfl
  have hK9 := hK.sub (tys' := []) [] rfl
  refine W.widen (k := 0) (n := 0) (Nat.le_of_ble_eq_true rfl) (Nat.le_of_ble_eq_true rfl) ?_
  exact W.aret (v := .null) hx hb hr (Or.inl ⟨_, rfl⟩) (Or.inl rfl) (fun t ht hW => ⟨⟨none, (), rfl, rfl, ⟨by rw [ht]; exact hP9, va_K.moved hW.alike hK9, hD9⟩⟩, hS.F ht⟩) hS.2.2 d_SE_tested_22
set_option maxHeartbeats 1000000 in
set_option maxRecDepth 100000 in
/-- tested(test) -/
theorem k_SE_tested (l : Launch) (dC : Nat → ClassId) (dI : Nat → Nat → Nat) (sz : Nat) (te : Nat) (em : Nat) (aK : Nat → Nat) (aV : Nat → Nat) : Met l y_SE_tested ws_SE_tested ({ frames := 2, cells := 1, slots := 6, locals := 38 }) (va_Pc [.ref te] (fun U => U.heap.size = sz ∧ va_P (dC, dI) vwCl [] U.heap ∧ va_K (dC, dI) vwCl [] U ∧ va_D (fun _ => True) [] ∧ EX em aK aV (va_A [] sz) U U.heap)) (va_Qr (fun (u : Unit) => True) (fun u ra t => va_P (dC, dI) vwCl [(ra, .inr (10, [.int 4, .ref (aK 0), .int 0, .int 0, .int 0, .ref te]))] t.heap ∧ va_K (dC, dI) vwCl [] t ∧ va_D (va_A [] sz) [(ra, .inr (10, [.int 4, .ref (aK 0), .int 0, .int 0, .int 0, .ref te]))]) (va_A [] sz)) 1 6 (va_A [] sz) := by
  refine Met.ofW (cc := c_SE_tested) (maxL := 1) (ret := (some (.object "PatchStore$Selector"))) (by decide) rfl ?_
  intro p e s m args below meth c s₁ B hml hv
  obtain ⟨rfl, hsz, hP, hK, hD0, hE⟩ := hv
  have hx := B.exec
  have hb := B.bytes
  have hr := B.returns
  have hts := atoms_spec (ws := ws_SE_tested) B.pre
  have htb := fun w (h : w ∈ TBL) => hts w (List.mem_cons_of_mem _ h)
  have hown : s.vm.findClass R_SE = some m.cls := findClass_of_methodNamed B.named
  have hlocks := B.notSynchronized
  subst hsz
  have hD := hD0.self (sz := s.heap.size)
  generalize hAe : va_A [] s.heap.size = A at hD hE ⊢
  have hA : ∀ q : Nat, s.heap.size ≤ q → A q := fun q h => by rw [← hAe]; exact Or.inr h
  have hS : va_S A s.heap s.heap [] := va_S.rf
  have hP : va_P (dC, dI) vwCl [] s.heap := hP
  have hl := lv_entry ([.ref te]) (n := 1) (Nat.le_of_ble_eq_true rfl)
  rw [lg_entry_eq]
  generalize (lg_sl ([.ref te]) ++ List.replicate (1 - (lg_sl ([.ref te])).length) Slot.unset).toArray = ls at hl ⊢
  replace hl : lv_has ls 1 [(0, .ref te)] := hl
  refine lv_aload_n hx hb d_SE_tested_0 rfl (lv_at hl 0 rfl) ?_
  refine lv_ifnonnull (tgt := 8) hx hb d_SE_tested_1 rfl ?_
  refine va_new (ci := 10) (fs := [.int 0, .null, .int 0, .int 0, .int 0, .null]) (C := R_SE) (T := T_SE) (N := 6) hx hb htb in_SE ty_SE ty_SE_ok hown (htb _ m_892) (htb _ m_893) (htb _ m_26) hK hP hD hS hA rfl (fun j hj => by rcases (show j = 0 ∨ j = 1 ∨ j = 2 ∨ j = 3 ∨ j = 4 ∨ j = 5 by omega) with rfl | rfl | rfl | rfl | rfl | rfl <;> rfl) (Nat.le_of_ble_eq_true rfl) (Nat.le_of_ble_eq_true rfl) d_SE_tested_8 (fun zs H hP hD hS => ?_)
  replace hP : va_P (dC, dI) vwCl [(zs, .inr (10, [.int 0, .null, .int 0, .int 0, .int 0, .null]))] H := hP
  replace hD : va_D A [(zs, .inr (10, [.int 0, .null, .int 0, .int 0, .int 0, .null]))] := hD
  refine W.widen (k := 1) (n := 6) (Nat.le_of_ble_eq_true rfl) (Nat.le_of_ble_eq_true rfl) ?_
  refine lv_dup hx hb d_SE_tested_11 rfl ?_
  refine lv_iconst (v := 4) hx hb d_SE_tested_12 (by decide) ?_
  refine va_ldcS hx hb hown (lr_20 hE) d_SE_tested_13 ?_
  refine lv_iconst (v := 0) hx hb d_SE_tested_15 (by decide) ?_
  refine lv_iconst (v := 0) hx hb d_SE_tested_16 (by decide) ?_
  refine lv_iconst (v := 0) hx hb d_SE_tested_17 (by decide) ?_
  refine lv_aload_n hx hb d_SE_tested_18 rfl (lv_at hl 0 rfl) ?_
  have hPc := hP.sub (ws' := [(zs, .inr (10, [.int 0, .null, .int 0, .int 0, .int 0, .null]))]) [0] rfl
  have hDc := hD.sub (ws' := [(zs, .inr (10, [.int 0, .null, .int 0, .int 0, .int 0, .null]))]) [0] (by decide) rfl
  have hFc := va_free (wc := [(zs, .inr (10, [.int 0, .null, .int 0, .int 0, .int 0, .null]))]) hD hS hA [0] rfl
  have hKc := hK.sub (tys' := []) [] rfl
  refine va_callv (va_runI (As := [.int 4, .ref (aK 0), .int 0, .int 0, .int 0, .ref te]) (rest := [.ref zs]) ⟨hx, hb, hml, hown, htb⟩ (k_SE_initT l dC dI _ zs 4 (aK 0) 0 0 0 te ) (cwI 6 htb (g_all (fun _ h => h) m_897) rfl rfl rfl (htb _ m_26) (htb _ m_895) (htb _ m_896) rfl (by decide +kernel) ⟨Nat.le_of_ble_eq_true rfl, Nat.le_of_ble_eq_true rfl⟩) ⟨fun a U g mk q => by obtain ⟨q0, q1, qP, qK, qD⟩ := q; exact ⟨q0, q1, qP, va_K.moved (u := U) (U := U.calling g mk a) (Vm.Alike.refl U.vm) qK, qD⟩, fun U hU hW => ⟨rfl, by rw [hU], by rw [hU]; exact hPc, va_K.moved hW.alike hKc, hDc.weaken (fun _ _ _ _ => trivial)⟩⟩ rfl rfl hl.1 rfl (lv_room (Nat.le_of_ble_eq_true rfl)) d_SE_tested_19 ⟨Nat.le_of_ble_eq_true rfl, Nat.le_of_ble_eq_true rfl⟩) hS (fun q _ h => hFc q h) hFc (fun u21 t H1 locs ht hvm hw23 hB hz1 hk1 hS => ?_)
  obtain ⟨hP1, hK1, hD1⟩ := hB
  rw [ht] at hP1
  have hK1 := va_K.moved hvm.symm hK1
  replace hw23 : True := hw23
  obtain ⟨hP, hD⟩ := va_join (wr := []) (w1 := [(zs, .inr (10, [.int 4, .ref (aK 0), .int 0, .int 0, .int 0, .ref te]))]) hP hD [0] [] rfl rfl (by decide) (by decide) hk1 hFc hP1 hD1
  have hK := (hK.sub (tys' := []) [] rfl).app hK1
  generalize H1 = H at hP hS ⊢
  replace hP : va_P (dC, dI) vwCl [(zs, .inr (10, [.int 4, .ref (aK 0), .int 0, .int 0, .int 0, .ref te]))] H := hP
  replace hD : va_D A [(zs, .inr (10, [.int 4, .ref (aK 0), .int 0, .int 0, .int 0, .ref te]))] := hD
  replace hK : va_K (dC, dI) vwCl [] s := hK
  clear hPc hDc hFc hKc hP1 hD1 hK1 hk1 hz1 ht hvm
  have hP9 := hP.sub (ws' := [(zs, .inr (10, [.int 4, .ref (aK 0), .int 0, .int 0, .int 0, .ref te]))]) [0] rfl
  have hD9 := hD.sub (ws' := [(zs, .inr (10, [.int 4, .ref (aK 0), .int 0, .int 0, .int 0, .ref te]))]) [0] (by decide) rfl
  have hK9 := hK.sub (tys' := []) [] rfl
  refine W.widen (k := 1) (n := 6) (Nat.le_of_ble_eq_true rfl) (Nat.le_of_ble_eq_true rfl) ?_
  exact W.aret (v := .ref zs) hx hb hr (Or.inl ⟨_, rfl⟩) (Or.inr ⟨_, rfl⟩) (fun t ht hW => ⟨⟨(), zs, rfl, trivial, ⟨by rw [ht]; exact hP9, va_K.moved hW.alike hK9, hD9⟩⟩, hS.F ht⟩) hS.2.2 d_SE_tested_22
set_option maxHeartbeats 1000000 in
set_option maxRecDepth 100000 in
/-- Test(..) -/
theorem k_TE_initN (l : Launch) (dC : Nat → ClassId) (dI : Nat → Nat → Nat) (sz : Nat) (x : Nat) (al : Nat) (sn : Int32) : Met l y_TE_init ws_TE_init ({ frames := 1, cells := 0, slots := 0, locals := 12 }) (va_Pc [.ref x, .ref al, .int sn, .null] (fun U => U.heap.size = sz ∧ va_P (dC, dI) vwCl [(x, .inr (11, [.null, .int 0, .null]))] U.heap ∧ va_K (dC, dI) vwCl [] U ∧ va_D (fun _ => True) [(x, .inr (11, [.null, .int 0, .null]))])) (va_Qv (fun (u : Unit) => True) (fun u t => va_P (dC, dI) vwCl [(x, .inr (11, [.ref al, .int sn, .null]))] t.heap ∧ va_K (dC, dI) vwCl [] t ∧ va_D (va_A [(x, .inr (11, [.null, .int 0, .null]))] sz) [(x, .inr (11, [.ref al, .int sn, .null]))]) (va_A [(x, .inr (11, [.null, .int 0, .null]))] sz)) 0 0 (va_A [(x, .inr (11, [.null, .int 0, .null]))] sz) := by
  refine Met.ofW (cc := c_TE_init) (maxL := 4) (ret := none) (by decide) rfl ?_
  intro p e s m args below meth c s₁ B hml hv
  obtain ⟨rfl, hsz, hP, hK, hD0⟩ := hv
  have hx := B.exec
  have hb := B.bytes
  have hr := B.returns
  have hts := atoms_spec (ws := ws_TE_init) B.pre
  have htb := fun w (h : w ∈ TBL) => hts w (List.mem_cons_of_mem _ h)
  have hown : s.vm.findClass R_TE = some m.cls := findClass_of_methodNamed B.named
  have hlocks := B.notSynchronized
  have hin : meth.name = "<init>" := (name_of_methodNamed B.named B.method).1
  subst hsz
  have hD := hD0.self (sz := s.heap.size)
  generalize hAe : va_A [(x, .inr (11, [.null, .int 0, .null]))] s.heap.size = A at hD ⊢
  have hA : ∀ q : Nat, s.heap.size ≤ q → A q := fun q h => by rw [← hAe]; exact Or.inr h
  have hS : va_S A s.heap s.heap [] := va_S.rf
  have hP : va_P (dC, dI) vwCl [(x, .inr (11, [.null, .int 0, .null]))] s.heap := hP
  have hl := lv_entry ([.ref x, .ref al, .int sn, .null]) (n := 4) (Nat.le_of_ble_eq_true rfl)
  rw [lg_entry_eq]
  generalize (lg_sl ([.ref x, .ref al, .int sn, .null]) ++ List.replicate (4 - (lg_sl ([.ref x, .ref al, .int sn, .null])).length) Slot.unset).toArray = ls at hl ⊢
  replace hl : lv_has ls 4 [(0, .ref x), (1, .ref al), (2, .int sn), (3, .null)] := hl
  refine lv_aload_n hx hb d_TE_init_0 rfl (lv_at hl 0 rfl) ?_
  refine W.objInit hx hb hown (htb _ m_973) (htb _ m_35) (htb _ m_36) rfl (by rw [hml]; exact hl.1) rfl d_TE_init_1 (Nat.le_of_ble_eq_true rfl) (Nat.le_of_ble_eq_true rfl) ?_
  refine W.eq (g2 := F0 m 4 ls []) rfl ?_
  refine lv_aload_n hx hb d_TE_init_4 rfl (lv_at hl 0 rfl) ?_
  refine lv_aload_n hx hb d_TE_init_5 rfl (lv_at hl 1 rfl) ?_
  refine va_putF (D := (dC, dI)) (ci := 11) (v := .ref al) (ty := (.object "java/util/ArrayList")) (C := R_TE) (T := T_TE) (N := 3) hx hb htb in_TE ty_TE ty_TE_ok nm_TE hown hK hP hD hS 0 rfl rfl 0 (by decide) (htb _ m_974) (fun _ h9 => h9) rfl hin rfl (by decide +kernel) rfl rfl (Nat.le_of_ble_eq_true rfl) d_TE_init_6 (fun H locs hP hD hS => ?_)
  replace hP : va_P (dC, dI) vwCl [(x, .inr (11, [.ref al, .int 0, .null]))] H := hP
  replace hD : va_D A [(x, .inr (11, [.ref al, .int 0, .null]))] := hD
  refine lv_aload_n hx hb d_TE_init_9 rfl (lv_at hl 0 rfl) ?_
  refine lv_iload_n hx hb d_TE_init_10 rfl (lv_at hl 2 rfl) ?_
  refine va_putF (D := (dC, dI)) (ci := 11) (v := .int sn) (ty := .int) (C := R_TE) (T := T_TE) (N := 3) hx hb htb in_TE ty_TE ty_TE_ok nm_TE hown hK hP hD hS 0 rfl rfl 1 (by decide) (htb _ m_975) (fun _ h9 => h9) rfl hin rfl (by decide +kernel) rfl rfl (Nat.le_of_ble_eq_true rfl) d_TE_init_11 (fun H locs hP hD hS => ?_)
  replace hP : va_P (dC, dI) vwCl [(x, .inr (11, [.ref al, .int sn, .null]))] H := hP
  replace hD : va_D A [(x, .inr (11, [.ref al, .int sn, .null]))] := hD
  refine lv_aload_n hx hb d_TE_init_14 rfl (lv_at hl 0 rfl) ?_
  refine lv_aload_nN hx hb d_TE_init_15 rfl (lv_at hl 3 rfl) ?_
  refine va_putF (D := (dC, dI)) (ci := 11) (v := .null) (ty := (.object "PatchStore$Value")) (C := R_TE) (T := T_TE) (N := 3) hx hb htb in_TE ty_TE ty_TE_ok nm_TE hown hK hP hD hS 0 rfl rfl 2 (by decide) (htb _ m_976) (fun _ h9 => h9) rfl hin rfl (by decide +kernel) rfl rfl (Nat.le_of_ble_eq_true rfl) d_TE_init_16 (fun H locs hP hD hS => ?_)
  replace hP : va_P (dC, dI) vwCl [(x, .inr (11, [.ref al, .int sn, .null]))] H := hP
  replace hD : va_D A [(x, .inr (11, [.ref al, .int sn, .null]))] := hD
  have hP9 := hP.sub (ws' := [(x, .inr (11, [.ref al, .int sn, .null]))]) [0] rfl
  have hD9 := hD.sub (ws' := [(x, .inr (11, [.ref al, .int sn, .null]))]) [0] (by decide) rfl
  have hK9 := hK.sub (tys' := []) [] rfl
  refine W.widen (k := 0) (n := 0) (Nat.le_of_ble_eq_true rfl) (Nat.le_of_ble_eq_true rfl) ?_
  exact W.vret hx hb hr (fun t ht hW => ⟨⟨(), rfl, trivial, ⟨by rw [ht]; exact hP9, va_K.moved hW.alike hK9, hD9⟩⟩, hS.F ht⟩) hS.2.2 d_TE_init_19
set_option maxHeartbeats 1000000 in
set_option maxRecDepth 100000 in
/-- Test(..) -/
theorem k_TE_initV (l : Launch) (dC : Nat → ClassId) (dI : Nat → Nat → Nat) (sz : Nat) (x : Nat) (al : Nat) (sn : Int32) (lv : Nat) : Met l y_TE_init ws_TE_init ({ frames := 1, cells := 0, slots := 0, locals := 12 }) (va_Pc [.ref x, .ref al, .int sn, .ref lv] (fun U => U.heap.size = sz ∧ va_P (dC, dI) vwCl [(x, .inr (11, [.null, .int 0, .null]))] U.heap ∧ va_K (dC, dI) vwCl [] U ∧ va_D (fun _ => True) [(x, .inr (11, [.null, .int 0, .null]))])) (va_Qv (fun (u : Unit) => True) (fun u t => va_P (dC, dI) vwCl [(x, .inr (11, [.ref al, .int sn, .ref lv]))] t.heap ∧ va_K (dC, dI) vwCl [] t ∧ va_D (va_A [(x, .inr (11, [.null, .int 0, .null]))] sz) [(x, .inr (11, [.ref al, .int sn, .ref lv]))]) (va_A [(x, .inr (11, [.null, .int 0, .null]))] sz)) 0 0 (va_A [(x, .inr (11, [.null, .int 0, .null]))] sz) := by
  refine Met.ofW (cc := c_TE_init) (maxL := 4) (ret := none) (by decide) rfl ?_
  intro p e s m args below meth c s₁ B hml hv
  obtain ⟨rfl, hsz, hP, hK, hD0⟩ := hv
  have hx := B.exec
  have hb := B.bytes
  have hr := B.returns
  have hts := atoms_spec (ws := ws_TE_init) B.pre
  have htb := fun w (h : w ∈ TBL) => hts w (List.mem_cons_of_mem _ h)
  have hown : s.vm.findClass R_TE = some m.cls := findClass_of_methodNamed B.named
  have hlocks := B.notSynchronized
  have hin : meth.name = "<init>" := (name_of_methodNamed B.named B.method).1
  subst hsz
  have hD := hD0.self (sz := s.heap.size)
  generalize hAe : va_A [(x, .inr (11, [.null, .int 0, .null]))] s.heap.size = A at hD ⊢
  have hA : ∀ q : Nat, s.heap.size ≤ q → A q := fun q h => by rw [← hAe]; exact Or.inr h
  have hS : va_S A s.heap s.heap [] := va_S.rf
  have hP : va_P (dC, dI) vwCl [(x, .inr (11, [.null, .int 0, .null]))] s.heap := hP
  have hl := lv_entry ([.ref x, .ref al, .int sn, .ref lv]) (n := 4) (Nat.le_of_ble_eq_true rfl)
  rw [lg_entry_eq]
  generalize (lg_sl ([.ref x, .ref al, .int sn, .ref lv]) ++ List.replicate (4 - (lg_sl ([.ref x, .ref al, .int sn, .ref lv])).length) Slot.unset).toArray = ls at hl ⊢
  replace hl : lv_has ls 4 [(0, .ref x), (1, .ref al), (2, .int sn), (3, .ref lv)] := hl
  refine lv_aload_n hx hb d_TE_init_0 rfl (lv_at hl 0 rfl) ?_
  refine W.objInit hx hb hown (htb _ m_973) (htb _ m_35) (htb _ m_36) rfl (by rw [hml]; exact hl.1) rfl d_TE_init_1 (Nat.le_of_ble_eq_true rfl) (Nat.le_of_ble_eq_true rfl) ?_
  refine W.eq (g2 := F0 m 4 ls []) rfl ?_
  refine lv_aload_n hx hb d_TE_init_4 rfl (lv_at hl 0 rfl) ?_
  refine lv_aload_n hx hb d_TE_init_5 rfl (lv_at hl 1 rfl) ?_
  refine va_putF (D := (dC, dI)) (ci := 11) (v := .ref al) (ty := (.object "java/util/ArrayList")) (C := R_TE) (T := T_TE) (N := 3) hx hb htb in_TE ty_TE ty_TE_ok nm_TE hown hK hP hD hS 0 rfl rfl 0 (by decide) (htb _ m_974) (fun _ h9 => h9) rfl hin rfl (by decide +kernel) rfl rfl (Nat.le_of_ble_eq_true rfl) d_TE_init_6 (fun H locs hP hD hS => ?_)
  replace hP : va_P (dC, dI) vwCl [(x, .inr (11, [.ref al, .int 0, .null]))] H := hP
  replace hD : va_D A [(x, .inr (11, [.ref al, .int 0, .null]))] := hD
  refine lv_aload_n hx hb d_TE_init_9 rfl (lv_at hl 0 rfl) ?_
  refine lv_iload_n hx hb d_TE_init_10 rfl (lv_at hl 2 rfl) ?_
  refine va_putF (D := (dC, dI)) (ci := 11) (v := .int sn) (ty := .int) (C := R_TE) (T := T_TE) (N := 3) hx hb htb in_TE ty_TE ty_TE_ok nm_TE hown hK hP hD hS 0 rfl rfl 1 (by decide) (htb _ m_975) (fun _ h9 => h9) rfl hin rfl (by decide +kernel) rfl rfl (Nat.le_of_ble_eq_true rfl) d_TE_init_11 (fun H locs hP hD hS => ?_)
  replace hP : va_P (dC, dI) vwCl [(x, .inr (11, [.ref al, .int sn, .null]))] H := hP
  replace hD : va_D A [(x, .inr (11, [.ref al, .int sn, .null]))] := hD
  refine lv_aload_n hx hb d_TE_init_14 rfl (lv_at hl 0 rfl) ?_
  refine lv_aload_n hx hb d_TE_init_15 rfl (lv_at hl 3 rfl) ?_
  refine va_putF (D := (dC, dI)) (ci := 11) (v := .ref lv) (ty := (.object "PatchStore$Value")) (C := R_TE) (T := T_TE) (N := 3) hx hb htb in_TE ty_TE ty_TE_ok nm_TE hown hK hP hD hS 0 rfl rfl 2 (by decide) (htb _ m_976) (fun _ h9 => h9) rfl hin rfl (by decide +kernel) rfl rfl (Nat.le_of_ble_eq_true rfl) d_TE_init_16 (fun H locs hP hD hS => ?_)
  replace hP : va_P (dC, dI) vwCl [(x, .inr (11, [.ref al, .int sn, .ref lv]))] H := hP
  replace hD : va_D A [(x, .inr (11, [.ref al, .int sn, .ref lv]))] := hD
  have hP9 := hP.sub (ws' := [(x, .inr (11, [.ref al, .int sn, .ref lv]))]) [0] rfl
  have hD9 := hD.sub (ws' := [(x, .inr (11, [.ref al, .int sn, .ref lv]))]) [0] (by decide) rfl
  have hK9 := hK.sub (tys' := []) [] rfl
  refine W.widen (k := 0) (n := 0) (Nat.le_of_ble_eq_true rfl) (Nat.le_of_ble_eq_true rfl) ?_
  exact W.vret hx hb hr (fun t ht hW => ⟨⟨(), rfl, trivial, ⟨by rw [ht]; exact hP9, va_K.moved hW.alike hK9, hD9⟩⟩, hS.F ht⟩) hS.2.2 d_TE_init_19
set_option maxHeartbeats 1000000 in
set_option maxRecDepth 100000 in
/-- PathReader(cursor) -/
theorem k_PR_init (l : Launch) (dC : Nat → ClassId) (dI : Nat → Nat → Nat) (sz : Nat) (x : Nat) (cu : Nat) : Met l y_PR_init ws_PR_init ({ frames := 1, cells := 0, slots := 0, locals := 12 }) (va_Pc [.ref x, .ref cu] (fun U => U.heap.size = sz ∧ va_P (dC, dI) vwCl [(x, .inr (7, [.null]))] U.heap ∧ va_K (dC, dI) vwCl [] U ∧ va_D (fun _ => True) [(x, .inr (7, [.null]))])) (va_Qv (fun (u : Unit) => True) (fun u t => va_P (dC, dI) vwCl [(x, .inr (7, [.ref cu]))] t.heap ∧ va_K (dC, dI) vwCl [] t ∧ va_D (va_A [(x, .inr (7, [.null]))] sz) [(x, .inr (7, [.ref cu]))]) (va_A [(x, .inr (7, [.null]))] sz)) 0 0 (va_A [(x, .inr (7, [.null]))] sz) := by
  refine Met.ofW (cc := c_PR_init) (maxL := 2) (ret := none) (by decide) rfl ?_
  intro p e s m args below meth c s₁ B hml hv
  obtain ⟨rfl, hsz, hP, hK, hD0⟩ := hv
  have hx := B.exec
  have hb := B.bytes
  have hr := B.returns
  have hts := atoms_spec (ws := ws_PR_init) B.pre
  have htb := fun w (h : w ∈ TBL) => hts w (List.mem_cons_of_mem _ h)
  have hown : s.vm.findClass R_PR = some m.cls := findClass_of_methodNamed B.named
  have hlocks := B.notSynchronized
  have hin : meth.name = "<init>" := (name_of_methodNamed B.named B.method).1
  subst hsz
  have hD := hD0.self (sz := s.heap.size)
  generalize hAe : va_A [(x, .inr (7, [.null]))] s.heap.size = A at hD ⊢
  have hA : ∀ q : Nat, s.heap.size ≤ q → A q := fun q h => by rw [← hAe]; exact Or.inr h
  have hS : va_S A s.heap s.heap [] := va_S.rf
  have hP : va_P (dC, dI) vwCl [(x, .inr (7, [.null]))] s.heap := hP
  have hl := lv_entry ([.ref x, .ref cu]) (n := 2) (Nat.le_of_ble_eq_true rfl)
  rw [lg_entry_eq]
  generalize (lg_sl ([.ref x, .ref cu]) ++ List.replicate (2 - (lg_sl ([.ref x, .ref cu])).length) Slot.unset).toArray = ls at hl ⊢
  replace hl : lv_has ls 2 [(0, .ref x), (1, .ref cu)] := hl
  refine lv_aload_n hx hb d_PR_init_0 rfl (lv_at hl 0 rfl) ?_
  refine W.objInit hx hb hown (htb _ m_851) (htb _ m_35) (htb _ m_36) rfl (by rw [hml]; exact hl.1) rfl d_PR_init_1 (Nat.le_of_ble_eq_true rfl) (Nat.le_of_ble_eq_true rfl) ?_
  refine W.eq (g2 := F0 m 4 ls []) rfl ?_
  refine lv_aload_n hx hb d_PR_init_4 rfl (lv_at hl 0 rfl) ?_
  refine lv_aload_n hx hb d_PR_init_5 rfl (lv_at hl 1 rfl) ?_
  refine va_putF (D := (dC, dI)) (ci := 7) (v := .ref cu) (ty := (.object "PatchStore$Cursor")) (C := R_PR) (T := T_PR) (N := 1) hx hb htb in_PR ty_PR ty_PR_ok nm_PR hown hK hP hD hS 0 rfl rfl 0 (by decide) (htb _ m_852) (fun _ h9 => h9) rfl hin rfl (by decide +kernel) rfl rfl (Nat.le_of_ble_eq_true rfl) d_PR_init_6 (fun H locs hP hD hS => ?_)
  replace hP : va_P (dC, dI) vwCl [(x, .inr (7, [.ref cu]))] H := hP
  replace hD : va_D A [(x, .inr (7, [.ref cu]))] := hD
  have hP9 := hP.sub (ws' := [(x, .inr (7, [.ref cu]))]) [0] rfl
  have hD9 := hD.sub (ws' := [(x, .inr (7, [.ref cu]))]) [0] (by decide) rfl
  have hK9 := hK.sub (tys' := []) [] rfl
  refine W.widen (k := 0) (n := 0) (Nat.le_of_ble_eq_true rfl) (Nat.le_of_ble_eq_true rfl) ?_
  exact W.vret hx hb hr (fun t ht hW => ⟨⟨(), rfl, trivial, ⟨by rw [ht]; exact hP9, va_K.moved hW.alike hK9, hD9⟩⟩, hS.F ht⟩) hS.2.2 d_PR_init_9
set_option maxHeartbeats 1000000 in
set_option maxRecDepth 100000 in
/-- Segment(deep) -/
theorem k_SG_init0 (l : Launch) (dC : Nat → ClassId) (dI : Nat → Nat → Nat) (sz : Nat) (x : Nat) (em : Nat) (aK : Nat → Nat) (aV : Nat → Nat) : Met l y_SG_init ws_SG_init ({ frames := 4, cells := 1, slots := 3, locals := 72 }) (va_Pc [.ref x, .int 0] (fun U => U.heap.size = sz ∧ va_P (dC, dI) vwCl [(x, .inr (9, [.int 0, .null]))] U.heap ∧ va_K (dC, dI) vwCl [] U ∧ va_D (fun _ => True) [(x, .inr (9, [.int 0, .null]))] ∧ EX em aK aV (va_A [(x, .inr (9, [.int 0, .null]))] sz) U U.heap)) (va_Qv (fun (u : Unit) => True) (fun u t => ∃ (pl : Nat), va_P (dC, dI) vwCl [(x, .inr (9, [.int 0, .ref pl])), (pl, .inr (14, [.ref em, .int 0, .int 0]))] t.heap ∧ va_K (dC, dI) vwCl [] t ∧ va_D (va_A [(x, .inr (9, [.int 0, .null]))] sz) [(x, .inr (9, [.int 0, .ref pl])), (pl, .inr (14, [.ref em, .int 0, .int 0]))]) (va_A [(x, .inr (9, [.int 0, .null]))] sz)) 1 3 (va_A [(x, .inr (9, [.int 0, .null]))] sz) := by
  refine Met.ofW (cc := c_SG_init) (maxL := 2) (ret := none) (by decide) rfl ?_
  intro p e s m args below meth c s₁ B hml hv
  obtain ⟨rfl, hsz, hP, hK, hD0, hE⟩ := hv
  have hx := B.exec
  have hb := B.bytes
  have hr := B.returns
  have hts := atoms_spec (ws := ws_SG_init) B.pre
  have htb := fun w (h : w ∈ TBL) => hts w (List.mem_cons_of_mem _ h)
  have hown : s.vm.findClass R_SG = some m.cls := findClass_of_methodNamed B.named
  have hlocks := B.notSynchronized
  have hin : meth.name = "<init>" := (name_of_methodNamed B.named B.method).1
  subst hsz
  have hD := hD0.self (sz := s.heap.size)
  generalize hAe : va_A [(x, .inr (9, [.int 0, .null]))] s.heap.size = A at hD hE ⊢
  have hA : ∀ q : Nat, s.heap.size ≤ q → A q := fun q h => by rw [← hAe]; exact Or.inr h
  have hS : va_S A s.heap s.heap [] := va_S.rf
  have hP : va_P (dC, dI) vwCl [(x, .inr (9, [.int 0, .null]))] s.heap := hP
  have hl := lv_entry ([.ref x, .int 0]) (n := 2) (Nat.le_of_ble_eq_true rfl)
  rw [lg_entry_eq]
  generalize (lg_sl ([.ref x, .int 0]) ++ List.replicate (2 - (lg_sl ([.ref x, .int 0])).length) Slot.unset).toArray = ls at hl ⊢
  replace hl : lv_has ls 2 [(0, .ref x), (1, .int 0)] := hl
  refine lv_aload_n hx hb d_SG_init_0 rfl (lv_at hl 0 rfl) ?_
  refine W.objInit hx hb hown (htb _ m_877) (htb _ m_35) (htb _ m_36) rfl (by rw [hml]; exact hl.1) rfl d_SG_init_1 (Nat.le_of_ble_eq_true rfl) (Nat.le_of_ble_eq_true rfl) ?_
  refine W.eq (g2 := F0 m 4 ls []) rfl ?_
  refine lv_aload_n hx hb d_SG_init_4 rfl (lv_at hl 0 rfl) ?_
  refine va_new (ci := 14) (fs := [.null, .int 0, .int 0]) (C := R_AL) (T := T_AL) (N := 3) hx hb htb in_AL ty_AL ty_AL_ok hown (htb _ m_878) (htb _ m_74) (htb _ m_8) hK hP hD hS hA rfl (fun j hj => by rcases (show j = 0 ∨ j = 1 ∨ j = 2 by omega) with rfl | rfl | rfl <;> rfl) (Nat.le_of_ble_eq_true rfl) (Nat.le_of_ble_eq_true rfl) d_SG_init_5 (fun ql H hP hD hS => ?_)
  replace hP : va_P (dC, dI) vwCl [(x, .inr (9, [.int 0, .null])), (ql, .inr (14, [.null, .int 0, .int 0]))] H := hP
  replace hD : va_D A [(x, .inr (9, [.int 0, .null])), (ql, .inr (14, [.null, .int 0, .int 0]))] := hD
  refine W.widen (k := 1) (n := 3) (Nat.le_of_ble_eq_true rfl) (Nat.le_of_ble_eq_true rfl) ?_
  refine lv_dup hx hb d_SG_init_8 rfl ?_
  have hPc := hP.sub (ws' := [(ql, .inr (14, [.null, .int 0, .int 0]))]) [1] rfl
  have hDc := hD.sub (ws' := [(ql, .inr (14, [.null, .int 0, .int 0]))]) [1] (by decide) rfl
  have hFc := va_free (wc := [(ql, .inr (14, [.null, .int 0, .int 0]))]) hD hS hA [1] rfl
  have hKc := hK.sub (tys' := []) [] rfl
  refine va_callv (va_runI (As := []) (rest := [.ref ql, .ref x]) ⟨hx, hb, hml, hown, htb⟩ (k_AL_init l dC dI _ ql em aK aV ) (cwI 0 htb (g_all (fun _ h => h) m_77) rfl rfl rfl (htb _ m_8) (htb _ m_879) (htb _ m_76) rfl (by decide +kernel) ⟨Nat.le_of_ble_eq_true rfl, Nat.le_of_ble_eq_true rfl⟩) ⟨fun a U g mk q => by obtain ⟨q0, q1, qP, qK, qD, z0⟩ := q; exact ⟨q0, q1, qP, va_K.moved (u := U) (U := U.calling g mk a) (Vm.Alike.refl U.vm) qK, qD, EX.same (U := U) (U' := U.calling g mk a) rfl z0⟩, fun U hU hW => ⟨rfl, by rw [hU], by rw [hU]; exact hPc, va_K.moved hW.alike hKc, hDc.weaken (fun _ _ _ _ => trivial), by rw [hU]; exact EX.warm hW ((hE.kept (fun a h1 h2 => hS.2.1 a h1 h2)).narrow hFc)⟩⟩ rfl rfl hl.1 rfl (lv_room (Nat.le_of_ble_eq_true rfl)) d_SG_init_9 ⟨Nat.le_of_ble_eq_true rfl, Nat.le_of_ble_eq_true rfl⟩) hS (fun q _ h => hFc q h) hFc (fun u21 t H1 locs ht hvm hw23 hB hz1 hk1 hS => ?_)
  obtain ⟨hP1, hK1, hD1⟩ := hB
  rw [ht] at hP1
  have hK1 := va_K.moved hvm.symm hK1
  replace hw23 : True := hw23
  obtain ⟨hP, hD⟩ := va_join (wr := [(x, .inr (9, [.int 0, .null]))]) (w1 := [(ql, .inr (14, [.ref em, .int 0, .int 0]))]) hP hD [1] [0] rfl rfl (by decide) (by decide) hk1 hFc hP1 hD1
  have hK := (hK.sub (tys' := []) [] rfl).app hK1
  generalize H1 = H at hP hS ⊢
  replace hP : va_P (dC, dI) vwCl [(x, .inr (9, [.int 0, .null])), (ql, .inr (14, [.ref em, .int 0, .int 0]))] H := hP
  replace hD : va_D A [(x, .inr (9, [.int 0, .null])), (ql, .inr (14, [.ref em, .int 0, .int 0]))] := hD
  replace hK : va_K (dC, dI) vwCl [] s := hK
  clear hPc hDc hFc hKc hP1 hD1 hK1 hk1 hz1 ht hvm
  refine va_putF (D := (dC, dI)) (ci := 9) (v := .ref ql) (ty := (.object "java/util/ArrayList")) (C := R_SG) (T := T_SG) (N := 2) hx hb htb in_SG ty_SG ty_SG_ok nm_SG hown hK hP hD hS 0 rfl rfl 1 (by decide) (htb _ m_882) (fun _ h9 => h9) rfl hin rfl (by decide +kernel) rfl rfl (Nat.le_of_ble_eq_true rfl) d_SG_init_12 (fun H locs hP hD hS => ?_)
  replace hP : va_P (dC, dI) vwCl [(x, .inr (9, [.int 0, .ref ql])), (ql, .inr (14, [.ref em, .int 0, .int 0]))] H := hP
  replace hD : va_D A [(x, .inr (9, [.int 0, .ref ql])), (ql, .inr (14, [.ref em, .int 0, .int 0]))] := hD
  refine lv_aload_n hx hb d_SG_init_15 rfl (lv_at hl 0 rfl) ?_
  refine lv_iload_n hx hb d_SG_init_16 rfl (lv_at hl 1 rfl) ?_
  refine va_putF (D := (dC, dI)) (ci := 9) (v := .int 0) (ty := .boolean) (C := R_SG) (T := T_SG) (N := 2) hx hb htb in_SG ty_SG ty_SG_ok nm_SG hown hK hP hD hS 0 rfl rfl 0 (by decide) (htb _ m_880) (fun _ h9 => h9) rfl hin rfl (by decide +kernel) rfl rfl (Nat.le_of_ble_eq_true rfl) d_SG_init_17 (fun H locs hP hD hS => ?_)
  replace hP : va_P (dC, dI) vwCl [(x, .inr (9, [.int 0, .ref ql])), (ql, .inr (14, [.ref em, .int 0, .int 0]))] H := hP
  replace hD : va_D A [(x, .inr (9, [.int 0, .ref ql])), (ql, .inr (14, [.ref em, .int 0, .int 0]))] := hD
  have hP9 := hP.sub (ws' := [(x, .inr (9, [.int 0, .ref ql])), (ql, .inr (14, [.ref em, .int 0, .int 0]))]) [0, 1] rfl
  have hD9 := hD.sub (ws' := [(x, .inr (9, [.int 0, .ref ql])), (ql, .inr (14, [.ref em, .int 0, .int 0]))]) [0, 1] (by decide) rfl
  have hK9 := hK.sub (tys' := []) [] rfl
  refine W.widen (k := 1) (n := 3) (Nat.le_of_ble_eq_true rfl) (Nat.le_of_ble_eq_true rfl) ?_
  exact W.vret hx hb hr (fun t ht hW => ⟨⟨(), rfl, trivial, ⟨ql, by rw [ht]; exact hP9, va_K.moved hW.alike hK9, hD9⟩⟩, hS.F ht⟩) hS.2.2 d_SG_init_20
set_option maxHeartbeats 1000000 in
set_option maxRecDepth 100000 in
/-- Segment(deep) -/
theorem k_SG_init1 (l : Launch) (dC : Nat → ClassId) (dI : Nat → Nat → Nat) (sz : Nat) (x : Nat) (em : Nat) (aK : Nat → Nat) (aV : Nat → Nat) : Met l y_SG_init ws_SG_init ({ frames := 4, cells := 1, slots := 3, locals := 72 }) (va_Pc [.ref x, .int 1] (fun U => U.heap.size = sz ∧ va_P (dC, dI) vwCl [(x, .inr (9, [.int 0, .null]))] U.heap ∧ va_K (dC, dI) vwCl [] U ∧ va_D (fun _ => True) [(x, .inr (9, [.int 0, .null]))] ∧ EX em aK aV (va_A [(x, .inr (9, [.int 0, .null]))] sz) U U.heap)) (va_Qv (fun (u : Unit) => True) (fun u t => ∃ (pl : Nat), va_P (dC, dI) vwCl [(x, .inr (9, [.int 1, .ref pl])), (pl, .inr (14, [.ref em, .int 0, .int 0]))] t.heap ∧ va_K (dC, dI) vwCl [] t ∧ va_D (va_A [(x, .inr (9, [.int 0, .null]))] sz) [(x, .inr (9, [.int 1, .ref pl])), (pl, .inr (14, [.ref em, .int 0, .int 0]))]) (va_A [(x, .inr (9, [.int 0, .null]))] sz)) 1 3 (va_A [(x, .inr (9, [.int 0, .null]))] sz) := by
  refine Met.ofW (cc := c_SG_init) (maxL := 2) (ret := none) (by decide) rfl ?_
  intro p e s m args below meth c s₁ B hml hv
  obtain ⟨rfl, hsz, hP, hK, hD0, hE⟩ := hv
  have hx := B.exec
  have hb := B.bytes
  have hr := B.returns
  have hts := atoms_spec (ws := ws_SG_init) B.pre
  have htb := fun w (h : w ∈ TBL) => hts w (List.mem_cons_of_mem _ h)
  have hown : s.vm.findClass R_SG = some m.cls := findClass_of_methodNamed B.named
  have hlocks := B.notSynchronized
  have hin : meth.name = "<init>" := (name_of_methodNamed B.named B.method).1
  subst hsz
  have hD := hD0.self (sz := s.heap.size)
  generalize hAe : va_A [(x, .inr (9, [.int 0, .null]))] s.heap.size = A at hD hE ⊢
  have hA : ∀ q : Nat, s.heap.size ≤ q → A q := fun q h => by rw [← hAe]; exact Or.inr h
  have hS : va_S A s.heap s.heap [] := va_S.rf
  have hP : va_P (dC, dI) vwCl [(x, .inr (9, [.int 0, .null]))] s.heap := hP
  have hl := lv_entry ([.ref x, .int 1]) (n := 2) (Nat.le_of_ble_eq_true rfl)
  rw [lg_entry_eq]
  generalize (lg_sl ([.ref x, .int 1]) ++ List.replicate (2 - (lg_sl ([.ref x, .int 1])).length) Slot.unset).toArray = ls at hl ⊢
  replace hl : lv_has ls 2 [(0, .ref x), (1, .int 1)] := hl
  refine lv_aload_n hx hb d_SG_init_0 rfl (lv_at hl 0 rfl) ?_
  refine W.objInit hx hb hown (htb _ m_877) (htb _ m_35) (htb _ m_36) rfl (by rw [hml]; exact hl.1) rfl d_SG_init_1 (Nat.le_of_ble_eq_true rfl) (Nat.le_of_ble_eq_true rfl) ?_
  refine W.eq (g2 := F0 m 4 ls []) rfl ?_
  refine lv_aload_n hx hb d_SG_init_4 rfl (lv_at hl 0 rfl) ?_
  refine va_new (ci := 14) (fs := [.null, .int 0, .int 0]) (C := R_AL) (T := T_AL) (N := 3) hx hb htb in_AL ty_AL ty_AL_ok hown (htb _ m_878) (htb _ m_74) (htb _ m_8) hK hP hD hS hA rfl (fun j hj => by rcases (show j = 0 ∨ j = 1 ∨ j = 2 by omega) with rfl | rfl | rfl <;> rfl) (Nat.le_of_ble_eq_true rfl) (Nat.le_of_ble_eq_true rfl) d_SG_init_5 (fun ql H hP hD hS => ?_)
  replace hP : va_P (dC, dI) vwCl [(x, .inr (9, [.int 0, .null])), (ql, .inr (14, [.null, .int 0, .int 0]))] H := hP
  replace hD : va_D A [(x, .inr (9, [.int 0, .null])), (ql, .inr (14, [.null, .int 0, .int 0]))] := hD
  refine W.widen (k := 1) (n := 3) (Nat.le_of_ble_eq_true rfl) (Nat.le_of_ble_eq_true rfl) ?_
  refine lv_dup hx hb d_SG_init_8 rfl ?_
  have hPc := hP.sub (ws' := [(ql, .inr (14, [.null, .int 0, .int 0]))]) [1] rfl
  have hDc := hD.sub (ws' := [(ql, .inr (14, [.null, .int 0, .int 0]))]) [1] (by decide) rfl
  have hFc := va_free (wc := [(ql, .inr (14, [.null, .int 0, .int 0]))]) hD hS hA [1] rfl
  have hKc := hK.sub (tys' := []) [] rfl
  refine va_callv (va_runI (As := []) (rest := [.ref ql, .ref x]) ⟨hx, hb, hml, hown, htb⟩ (k_AL_init l dC dI _ ql em aK aV ) (cwI 0 htb (g_all (fun _ h => h) m_77) rfl rfl rfl (htb _ m_8) (htb _ m_879) (htb _ m_76) rfl (by decide +kernel) ⟨Nat.le_of_ble_eq_true rfl, Nat.le_of_ble_eq_true rfl⟩) ⟨fun a U g mk q => by obtain ⟨q0, q1, qP, qK, qD, z0⟩ := q; exact ⟨q0, q1, qP, va_K.moved (u := U) (U := U.calling g mk a) (Vm.Alike.refl U.vm) qK, qD, EX.same (U := U) (U' := U.calling g mk a) rfl z0⟩, fun U hU hW => ⟨rfl, by rw [hU], by rw [hU]; exact hPc, va_K.moved hW.alike hKc, hDc.weaken (fun _ _ _ _ => trivial), by rw [hU]; exact EX.warm hW ((hE.kept (fun a h1 h2 => hS.2.1 a h1 h2)).narrow hFc)⟩⟩ rfl rfl hl.1 rfl (lv_room (Nat.le_of_ble_eq_true rfl)) d_SG_init_9 ⟨Nat.le_of_ble_eq_true rfl, Nat.le_of_ble_eq_true rfl⟩) hS (fun q _ h => hFc q h) hFc (fun u21 t H1 locs ht hvm hw23 hB hz1 hk1 hS => ?_)
  obtain ⟨hP1, hK1, hD1⟩ := hB
  rw [ht] at hP1
  have hK1 := va_K.moved hvm.symm hK1
  replace hw23 : True := hw23
  obtain ⟨hP, hD⟩ := va_join (wr := [(x, .inr (9, [.int 0, .null]))]) (w1 := [(ql, .inr (14, [.ref em, .int 0, .int 0]))]) hP hD [1] [0] rfl rfl (by decide) (by decide) hk1 hFc hP1 hD1
  have hK := (hK.sub (tys' := []) [] rfl).app hK1
  generalize H1 = H at hP hS ⊢
  replace hP : va_P (dC, dI) vwCl [(x, .inr (9, [.int 0, .null])), (ql, .inr (14, [.ref em, .int 0, .int 0]))] H := hP
  replace hD : va_D A [(x, .inr (9, [.int 0, .null])), (ql, .inr (14, [.ref em, .int 0, .int 0]))] := hD
  replace hK : va_K (dC, dI) vwCl [] s := hK
  clear hPc hDc hFc hKc hP1 hD1 hK1 hk1 hz1 ht hvm
  refine va_putF (D := (dC, dI)) (ci := 9) (v := .ref ql) (ty := (.object "java/util/ArrayList")) (C := R_SG) (T := T_SG) (N := 2) hx hb htb in_SG ty_SG ty_SG_ok nm_SG hown hK hP hD hS 0 rfl rfl 1 (by decide) (htb _ m_882) (fun _ h9 => h9) rfl hin rfl (by decide +kernel) rfl rfl (Nat.le_of_ble_eq_true rfl) d_SG_init_12 (fun H locs hP hD hS => ?_)
  replace hP : va_P (dC, dI) vwCl [(x, .inr (9, [.int 0, .ref ql])), (ql, .inr (14, [.ref em, .int 0, .int 0]))] H := hP
  replace hD : va_D A [(x, .inr (9, [.int 0, .ref ql])), (ql, .inr (14, [.ref em, .int 0, .int 0]))] := hD
  refine lv_aload_n hx hb d_SG_init_15 rfl (lv_at hl 0 rfl) ?_
  refine lv_iload_n hx hb d_SG_init_16 rfl (lv_at hl 1 rfl) ?_
  refine va_putF (D := (dC, dI)) (ci := 9) (v := .int 1) (ty := .boolean) (C := R_SG) (T := T_SG) (N := 2) hx hb htb in_SG ty_SG ty_SG_ok nm_SG hown hK hP hD hS 0 rfl rfl 0 (by decide) (htb _ m_880) (fun _ h9 => h9) rfl hin rfl (by decide +kernel) rfl rfl (Nat.le_of_ble_eq_true rfl) d_SG_init_17 (fun H locs hP hD hS => ?_)
  replace hP : va_P (dC, dI) vwCl [(x, .inr (9, [.int 1, .ref ql])), (ql, .inr (14, [.ref em, .int 0, .int 0]))] H := hP
  replace hD : va_D A [(x, .inr (9, [.int 1, .ref ql])), (ql, .inr (14, [.ref em, .int 0, .int 0]))] := hD
  have hP9 := hP.sub (ws' := [(x, .inr (9, [.int 1, .ref ql])), (ql, .inr (14, [.ref em, .int 0, .int 0]))]) [0, 1] rfl
  have hD9 := hD.sub (ws' := [(x, .inr (9, [.int 1, .ref ql])), (ql, .inr (14, [.ref em, .int 0, .int 0]))]) [0, 1] (by decide) rfl
  have hK9 := hK.sub (tys' := []) [] rfl
  refine W.widen (k := 1) (n := 3) (Nat.le_of_ble_eq_true rfl) (Nat.le_of_ble_eq_true rfl) ?_
  exact W.vret hx hb hr (fun t ht hW => ⟨⟨(), rfl, trivial, ⟨ql, by rw [ht]; exact hP9, va_K.moved hW.alike hK9, hD9⟩⟩, hS.F ht⟩) hS.2.2 d_SG_init_20
