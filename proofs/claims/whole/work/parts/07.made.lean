set_option maxHeartbeats 1000000 in
set_option maxRecDepth 100000 in
/-- AbstractCollection(): nothing -/
theorem k_CO_init (l : Launch) (dC : Nat → ClassId) (dI : Nat → Nat → Nat) (sz : Nat) (x : Nat) : Met l y_CO_init ws_CO_init ({ frames := 1, cells := 0, slots := 0, locals := 12 }) (va_Pc [.ref x] (fun U => U.heap.size = sz ∧ va_P (dC, dI) vwCl [] U.heap ∧ va_K (dC, dI) vwCl [] U ∧ va_D (fun _ => True) [])) (va_Qv (fun (u : Unit) => True) (fun u t => va_P (dC, dI) vwCl [] t.heap ∧ va_K (dC, dI) vwCl [] t ∧ va_D (va_A [] sz) []) (va_A [] sz)) 0 0 (va_A [] sz) := by
  refine Met.ofW (cc := c_CO_init) (maxL := 1) (ret := none) (by decide) rfl ?_
  intro p e s m args below meth c s₁ B hml hv
  obtain ⟨rfl, hsz, hP, hK, hD0⟩ := hv
  have hx := B.exec
  have hb := B.bytes
  have hr := B.returns
  have hts := atoms_spec (ws := ws_CO_init) B.pre
  have htb := fun w (h : w ∈ TBL) => hts w (List.mem_cons_of_mem _ h)
  have hown : s.vm.findClass R_CO = some m.cls := findClass_of_methodNamed B.named
  have hlocks := B.notSynchronized
  have hin : meth.name = "<init>" := (name_of_methodNamed B.named B.method).1
  subst hsz
  have hD := hD0.self (sz := s.heap.size)
  generalize hAe : va_A [] s.heap.size = A at hD ⊢
  have hA : ∀ q : Nat, s.heap.size ≤ q → A q := fun q h => by rw [← hAe]; exact Or.inr h
  have hS : va_S A s.heap s.heap [] := va_S.rf
  have hP : va_P (dC, dI) vwCl [] s.heap := hP
  have hl := lv_entry ([.ref x]) (n := 1) (Nat.le_of_ble_eq_true rfl)
  rw [lg_entry_eq]
  generalize (lg_sl ([.ref x]) ++ List.replicate (1 - (lg_sl ([.ref x])).length) Slot.unset).toArray = ls at hl ⊢
  have hl : lv_has ls 1 [(0, .ref x)] := hl
  refine lv_aload_n hx hb d_CO_init_0 rfl (lv_at hl 0 rfl) ?_
  refine W.objInit hx hb hown (htb _ m_84) (htb _ m_35) (htb _ m_36) rfl (by rw [hml]; exact hl.1) rfl d_CO_init_1 (Nat.le_of_ble_eq_true rfl) (Nat.le_of_ble_eq_true rfl) ?_
  refine W.eq (g2 := F0 m 4 ls []) rfl ?_
  have hP9 := hP.sub (ws' := []) [] rfl
  have hD9 := hD.sub (ws' := []) [] (by decide) rfl
  have hK9 := hK.sub (tys' := []) [] rfl
  refine W.widen (k := 0) (n := 0) (Nat.le_of_ble_eq_true rfl) (Nat.le_of_ble_eq_true rfl) ?_
  exact W.vret hx hb hr (fun t ht hW => ⟨⟨(), rfl, trivial, ⟨by rw [ht]; exact hP9, va_K.moved hW.alike hK9, hD9⟩⟩, hS.F ht⟩) hS.2.2 d_CO_init_4
set_option maxHeartbeats 1000000 in
set_option maxRecDepth 100000 in
/-- AbstractList(): modCount is 0 -/
theorem k_LI_init (l : Launch) (dC : Nat → ClassId) (dI : Nat → Nat → Nat) (sz : Nat) (x : Nat) (mo : Int32) (sz0 : Int32) : Met l y_LI_init ws_LI_init ({ frames := 2, cells := 0, slots := 0, locals := 32 }) (va_Pc [.ref x] (fun U => U.heap.size = sz ∧ va_P (dC, dI) vwCl [(x, .inr (14, [.null, .int sz0, .int mo]))] U.heap ∧ va_K (dC, dI) vwCl [] U ∧ va_D (fun _ => True) [(x, .inr (14, [.null, .int sz0, .int mo]))])) (va_Qv (fun (u : Unit) => True) (fun u t => va_P (dC, dI) vwCl [(x, .inr (14, [.null, .int sz0, .int 0]))] t.heap ∧ va_K (dC, dI) vwCl [] t ∧ va_D (va_A [(x, .inr (14, [.null, .int sz0, .int mo]))] sz) [(x, .inr (14, [.null, .int sz0, .int 0]))]) (va_A [(x, .inr (14, [.null, .int sz0, .int mo]))] sz)) 0 0 (va_A [(x, .inr (14, [.null, .int sz0, .int mo]))] sz) := by
  refine Met.ofW (cc := c_LI_init) (maxL := 1) (ret := none) (by decide) rfl ?_
  intro p e s m args below meth c s₁ B hml hv
  obtain ⟨rfl, hsz, hP, hK, hD0⟩ := hv
  have hx := B.exec
  have hb := B.bytes
  have hr := B.returns
  have hts := atoms_spec (ws := ws_LI_init) B.pre
  have htb := fun w (h : w ∈ TBL) => hts w (List.mem_cons_of_mem _ h)
  have hown : s.vm.findClass R_LI = some m.cls := findClass_of_methodNamed B.named
  have hlocks := B.notSynchronized
  have hin : meth.name = "<init>" := (name_of_methodNamed B.named B.method).1
  subst hsz
  have hD := hD0.self (sz := s.heap.size)
  generalize hAe : va_A [(x, .inr (14, [.null, .int sz0, .int mo]))] s.heap.size = A at hD ⊢
  have hA : ∀ q : Nat, s.heap.size ≤ q → A q := fun q h => by rw [← hAe]; exact Or.inr h
  have hS : va_S A s.heap s.heap [] := va_S.rf
  have hP : va_P (dC, dI) vwCl [(x, .inr (14, [.null, .int sz0, .int mo]))] s.heap := hP
  have hl := lv_entry ([.ref x]) (n := 1) (Nat.le_of_ble_eq_true rfl)
  rw [lg_entry_eq]
  generalize (lg_sl ([.ref x]) ++ List.replicate (1 - (lg_sl ([.ref x])).length) Slot.unset).toArray = ls at hl ⊢
  have hl : lv_has ls 1 [(0, .ref x)] := hl
  refine lv_aload_n hx hb d_LI_init_0 rfl (lv_at hl 0 rfl) ?_
  have hPc := hP.sub (ws' := []) [] rfl
  have hDc := hD.sub (ws' := []) [] (by decide) rfl
  have hFc := va_free (wc := []) hD hS hA [] rfl
  have hKc := hK.sub (tys' := []) [] rfl
  refine va_callv (va_runI (As := []) (rest := []) ⟨hx, hb, hml, hown, htb⟩ (k_CO_init l dC dI _ x ) (cwI 0 htb (g_all (fun _ h => h) m_83) rfl rfl rfl (htb _ m_6) (htb _ m_81) (htb _ m_82) rfl (by decide +kernel) ⟨Nat.le_of_ble_eq_true rfl, Nat.le_of_ble_eq_true rfl⟩) ⟨fun a U g mk q => by obtain ⟨q0, q1, qP, qK, qD⟩ := q; exact ⟨q0, q1, qP, va_K.moved (u := U) (U := U.calling g mk a) (Vm.Alike.refl U.vm) qK, qD⟩, fun U hU hW => ⟨rfl, by rw [hU], by rw [hU]; exact hPc, va_K.moved hW.alike hKc, hDc.weaken (fun _ _ _ _ => trivial)⟩⟩ rfl rfl hl.1 rfl (lv_room (Nat.le_of_ble_eq_true rfl)) d_LI_init_1 ⟨Nat.le_of_ble_eq_true rfl, Nat.le_of_ble_eq_true rfl⟩) hS (fun q _ h => hFc q h) hFc (fun u1 t H1 locs ht hvm hw3 hB hz1 hk1 hS => ?_)
  obtain ⟨hP1, hK1, hD1⟩ := hB
  rw [ht] at hP1
  have hK1 := va_K.moved hvm.symm hK1
  have hw3 : True := hw3
  obtain ⟨hP, hD⟩ := va_join (wr := [(x, .inr (14, [.null, .int sz0, .int mo]))]) (w1 := []) hP hD [] [0] rfl rfl (by decide) (by decide) hk1 hFc hP1 hD1
  have hK := (hK.sub (tys' := []) [] rfl).app hK1
  generalize H1 = H at hP hS ⊢
  have hP : va_P (dC, dI) vwCl [(x, .inr (14, [.null, .int sz0, .int mo]))] H := hP
  have hD : va_D A [(x, .inr (14, [.null, .int sz0, .int mo]))] := hD
  have hK : va_K (dC, dI) vwCl [] s := hK
  refine lv_aload_n hx hb d_LI_init_4 rfl (lv_at hl 0 rfl) ?_
  refine lv_iconst (v := 0) hx hb d_LI_init_5 (by decide) ?_
  refine va_put (D := (dC, dI)) (ci := 14) (v := .int 0) (ty := .int) (C := R_AL) (T := T_AL) (N := 3) hx hb htb in_AL ty_AL ty_AL_ok nm_AL hown hK hP hD hS 0 rfl rfl 2 (by decide) (htb _ m_89) (fun _ h9 => h9) rfl (by decide +kernel) rfl rfl (Nat.le_of_ble_eq_true rfl) d_LI_init_6 (fun H locs hP hD hS => ?_)
  have hP : va_P (dC, dI) vwCl [(x, .inr (14, [.null, .int sz0, .int 0]))] H := hP
  have hD : va_D A [(x, .inr (14, [.null, .int sz0, .int 0]))] := hD
  have hP9 := hP.sub (ws' := [(x, .inr (14, [.null, .int sz0, .int 0]))]) [0] rfl
  have hD9 := hD.sub (ws' := [(x, .inr (14, [.null, .int sz0, .int 0]))]) [0] (by decide) rfl
  have hK9 := hK.sub (tys' := []) [] rfl
  refine W.widen (k := 0) (n := 0) (Nat.le_of_ble_eq_true rfl) (Nat.le_of_ble_eq_true rfl) ?_
  exact W.vret hx hb hr (fun t ht hW => ⟨⟨(), rfl, trivial, ⟨by rw [ht]; exact hP9, va_K.moved hW.alike hK9, hD9⟩⟩, hS.F ht⟩) hS.2.2 d_LI_init_9
set_option maxHeartbeats 1000000 in
set_option maxRecDepth 100000 in
/-- ArrayList(): the empty table, size 0 -/
theorem k_AL_init (l : Launch) (dC : Nat → ClassId) (dI : Nat → Nat → Nat) (sz : Nat) (x : Nat) (em : Nat) (aK : Nat → Nat) (aV : Nat → Nat) : Met l y_AL_init ws_AL_init ({ frames := 3, cells := 0, slots := 0, locals := 52 }) (va_Pc [.ref x] (fun U => U.heap.size = sz ∧ va_P (dC, dI) vwCl [(x, .inr (14, [.null, .int 0, .int 0]))] U.heap ∧ va_K (dC, dI) vwCl [] U ∧ va_D (fun _ => True) [(x, .inr (14, [.null, .int 0, .int 0]))] ∧ EX em aK aV (va_A [(x, .inr (14, [.null, .int 0, .int 0]))] sz) U U.heap)) (va_Qv (fun (u : Unit) => True) (fun u t => va_P (dC, dI) vwCl [(x, .inr (14, [.ref em, .int 0, .int 0]))] t.heap ∧ va_K (dC, dI) vwCl [] t ∧ va_D (va_A [(x, .inr (14, [.null, .int 0, .int 0]))] sz) [(x, .inr (14, [.ref em, .int 0, .int 0]))]) (va_A [(x, .inr (14, [.null, .int 0, .int 0]))] sz)) 0 0 (va_A [(x, .inr (14, [.null, .int 0, .int 0]))] sz) := by
  refine Met.ofW (cc := c_AL_init) (maxL := 1) (ret := none) (by decide) rfl ?_
  intro p e s m args below meth c s₁ B hml hv
  obtain ⟨rfl, hsz, hP, hK, hD0, hE⟩ := hv
  have hx := B.exec
  have hb := B.bytes
  have hr := B.returns
  have hts := atoms_spec (ws := ws_AL_init) B.pre
  have htb := fun w (h : w ∈ TBL) => hts w (List.mem_cons_of_mem _ h)
  have hown : s.vm.findClass R_AL = some m.cls := findClass_of_methodNamed B.named
  have hlocks := B.notSynchronized
  have hin : meth.name = "<init>" := (name_of_methodNamed B.named B.method).1
  subst hsz
  have hD := hD0.self (sz := s.heap.size)
  generalize hAe : va_A [(x, .inr (14, [.null, .int 0, .int 0]))] s.heap.size = A at hD hE ⊢
  have hA : ∀ q : Nat, s.heap.size ≤ q → A q := fun q h => by rw [← hAe]; exact Or.inr h
  have hS : va_S A s.heap s.heap [] := va_S.rf
  have hP : va_P (dC, dI) vwCl [(x, .inr (14, [.null, .int 0, .int 0]))] s.heap := hP
  have hl := lv_entry ([.ref x]) (n := 1) (Nat.le_of_ble_eq_true rfl)
  rw [lg_entry_eq]
  generalize (lg_sl ([.ref x]) ++ List.replicate (1 - (lg_sl ([.ref x])).length) Slot.unset).toArray = ls at hl ⊢
  have hl : lv_has ls 1 [(0, .ref x)] := hl
  refine lv_aload_n hx hb d_AL_init_0 rfl (lv_at hl 0 rfl) ?_
  have hPc := hP.sub (ws' := [(x, .inr (14, [.null, .int 0, .int 0]))]) [0] rfl
  have hDc := hD.sub (ws' := [(x, .inr (14, [.null, .int 0, .int 0]))]) [0] (by decide) rfl
  have hFc := va_free (wc := [(x, .inr (14, [.null, .int 0, .int 0]))]) hD hS hA [0] rfl
  have hKc := hK.sub (tys' := []) [] rfl
  refine va_callv (va_runI (As := []) (rest := []) ⟨hx, hb, hml, hown, htb⟩ (k_LI_init l dC dI _ x 0 0 ) (cwI 0 htb (g_all (fun _ h => h) m_80) rfl rfl rfl (htb _ m_7) (htb _ m_78) (htb _ m_79) rfl (by decide +kernel) ⟨Nat.le_of_ble_eq_true rfl, Nat.le_of_ble_eq_true rfl⟩) ⟨fun a U g mk q => by obtain ⟨q0, q1, qP, qK, qD⟩ := q; exact ⟨q0, q1, qP, va_K.moved (u := U) (U := U.calling g mk a) (Vm.Alike.refl U.vm) qK, qD⟩, fun U hU hW => ⟨rfl, by rw [hU], by rw [hU]; exact hPc, va_K.moved hW.alike hKc, hDc.weaken (fun _ _ _ _ => trivial)⟩⟩ rfl rfl hl.1 rfl (lv_room (Nat.le_of_ble_eq_true rfl)) d_AL_init_1 ⟨Nat.le_of_ble_eq_true rfl, Nat.le_of_ble_eq_true rfl⟩) hS (fun q _ h => hFc q h) hFc (fun u1 t H1 locs ht hvm hw3 hB hz1 hk1 hS => ?_)
  obtain ⟨hP1, hK1, hD1⟩ := hB
  rw [ht] at hP1
  have hK1 := va_K.moved hvm.symm hK1
  have hw3 : True := hw3
  obtain ⟨hP, hD⟩ := va_join (wr := []) (w1 := [(x, .inr (14, [.null, .int 0, .int 0]))]) hP hD [0] [] rfl rfl (by decide) (by decide) hk1 hFc hP1 hD1
  have hK := (hK.sub (tys' := []) [] rfl).app hK1
  generalize H1 = H at hP hS ⊢
  have hP : va_P (dC, dI) vwCl [(x, .inr (14, [.null, .int 0, .int 0]))] H := hP
  have hD : va_D A [(x, .inr (14, [.null, .int 0, .int 0]))] := hD
  have hK : va_K (dC, dI) vwCl [] s := hK
  refine lv_aload_n hx hb d_AL_init_4 rfl (lv_at hl 0 rfl) ?_
  refine va_gets hx hb hE.empty hS hown (htb _ m_85) (fun _ h9 => h9) d_AL_init_5 ?_
  refine va_put (D := (dC, dI)) (ci := 14) (v := .ref em) (ty := (.array (.object "java/lang/Object"))) (C := R_AL) (T := T_AL) (N := 3) hx hb htb in_AL ty_AL ty_AL_ok nm_AL hown hK hP hD hS 0 rfl rfl 0 (by decide) (htb _ m_87) (fun _ h9 => h9) rfl (by decide +kernel) rfl rfl (Nat.le_of_ble_eq_true rfl) d_AL_init_8 (fun H locs hP hD hS => ?_)
  have hP : va_P (dC, dI) vwCl [(x, .inr (14, [.ref em, .int 0, .int 0]))] H := hP
  have hD : va_D A [(x, .inr (14, [.ref em, .int 0, .int 0]))] := hD
  have hP9 := hP.sub (ws' := [(x, .inr (14, [.ref em, .int 0, .int 0]))]) [0] rfl
  have hD9 := hD.sub (ws' := [(x, .inr (14, [.ref em, .int 0, .int 0]))]) [0] (by decide) rfl
  have hK9 := hK.sub (tys' := []) [] rfl
  refine W.widen (k := 0) (n := 0) (Nat.le_of_ble_eq_true rfl) (Nat.le_of_ble_eq_true rfl) ?_
  exact W.vret hx hb hr (fun t ht hW => ⟨⟨(), rfl, trivial, ⟨by rw [ht]; exact hP9, va_K.moved hW.alike hK9, hD9⟩⟩, hS.F ht⟩) hS.2.2 d_AL_init_11
set_option maxHeartbeats 1000000 in
set_option maxRecDepth 100000 in
/-- AbstractStringBuilder(16): sixteen bytes, latin -/
theorem k_AB_init (l : Launch) (dC : Nat → ClassId) (dI : Nat → Nat → Nat) (sz : Nat) (x : Nat) (em : Nat) (aK : Nat → Nat) (aV : Nat → Nat) : Met l y_AB_init ws_AB_init ({ frames := 1, cells := 1, slots := 16, locals := 12 }) (va_Pc [.ref x, .int 16] (fun U => U.heap.size = sz ∧ va_P (dC, dI) vwCl [(x, .inr (13, [.null, .int 0, .int 0, .int 0]))] U.heap ∧ va_K (dC, dI) vwCl [] U ∧ va_D (fun _ => True) [(x, .inr (13, [.null, .int 0, .int 0, .int 0]))] ∧ EX em aK aV (va_A [(x, .inr (13, [.null, .int 0, .int 0, .int 0]))] sz) U U.heap)) (va_Qv (fun (u : Unit) => True) (fun u t => ∃ (bv : Nat) (cB : ClassId), va_P (dC, dI) vwCl [(x, .inr (13, [.ref bv, .int 0, .int 0, .int 0])), (bv, .inl (cB, 16, .inl (fun _ => 0)))] t.heap ∧ va_K (dC, dI) vwCl [(cB, .byte)] t ∧ va_D (va_A [(x, .inr (13, [.null, .int 0, .int 0, .int 0]))] sz) [(x, .inr (13, [.ref bv, .int 0, .int 0, .int 0])), (bv, .inl (cB, 16, .inl (fun _ => 0)))]) (va_A [(x, .inr (13, [.null, .int 0, .int 0, .int 0]))] sz)) 1 16 (va_A [(x, .inr (13, [.null, .int 0, .int 0, .int 0]))] sz) := by
  refine Met.ofW (cc := c_AB_init) (maxL := 2) (ret := none) (by decide) rfl ?_
  intro p e s m args below meth c s₁ B hml hv
  obtain ⟨rfl, hsz, hP, hK, hD0, hE⟩ := hv
  have hx := B.exec
  have hb := B.bytes
  have hr := B.returns
  have hts := atoms_spec (ws := ws_AB_init) B.pre
  have htb := fun w (h : w ∈ TBL) => hts w (List.mem_cons_of_mem _ h)
  have hown : s.vm.findClass R_AB = some m.cls := findClass_of_methodNamed B.named
  have hlocks := B.notSynchronized
  have hin : meth.name = "<init>" := (name_of_methodNamed B.named B.method).1
  subst hsz
  have hD := hD0.self (sz := s.heap.size)
  generalize hAe : va_A [(x, .inr (13, [.null, .int 0, .int 0, .int 0]))] s.heap.size = A at hD hE ⊢
  have hA : ∀ q : Nat, s.heap.size ≤ q → A q := fun q h => by rw [← hAe]; exact Or.inr h
  have hS : va_S A s.heap s.heap [] := va_S.rf
  have hP : va_P (dC, dI) vwCl [(x, .inr (13, [.null, .int 0, .int 0, .int 0]))] s.heap := hP
  have hl := lv_entry ([.ref x, .int 16]) (n := 2) (Nat.le_of_ble_eq_true rfl)
  rw [lg_entry_eq]
  generalize (lg_sl ([.ref x, .int 16]) ++ List.replicate (2 - (lg_sl ([.ref x, .int 16])).length) Slot.unset).toArray = ls at hl ⊢
  have hl : lv_has ls 2 [(0, .ref x), (1, .int 16)] := hl
  refine lv_aload_n hx hb d_AB_init_0 rfl (lv_at hl 0 rfl) ?_
  refine W.objInit hx hb hown (htb _ m_45) (htb _ m_35) (htb _ m_36) rfl (by rw [hml]; exact hl.1) rfl d_AB_init_1 (Nat.le_of_ble_eq_true rfl) (Nat.le_of_ble_eq_true rfl) ?_
  refine W.eq (g2 := F0 m 4 ls []) rfl ?_
  refine va_gets hx hb hE.compact hS hown (htb _ m_46) (fun _ h9 => h9) d_AB_init_4 ?_
  refine lv_if_eq (tgt := 25) hx hb d_AB_init_7 rfl (fun h9 => absurd h9 (by decide)) (fun _ => ?_)
  refine lv_aload_n hx hb d_AB_init_10 rfl (lv_at hl 0 rfl) ?_
  refine lv_iload_n hx hb d_AB_init_11 rfl (lv_at hl 1 rfl) ?_
  refine va_newa (atype := .byte) (ty := .byte) (N' := 16) (a0 := (16, .inl (fun _ => 0))) hx hb (htb _ m_70) rfl hK hP hD hS hA (fun _ => rfl) (by decide) (by decide) (by decide) (Nat.le_of_ble_eq_true rfl) (Nat.le_of_ble_eq_true rfl) d_AB_init_12 (fun bv cB H hK hP hD hS => ?_)
  have hK : va_K (dC, dI) vwCl [(cB, .byte)] s := hK
  have hP : va_P (dC, dI) vwCl [(x, .inr (13, [.null, .int 0, .int 0, .int 0])), (bv, .inl (cB, 16, .inl (fun _ => 0)))] H := hP
  have hD : va_D A [(x, .inr (13, [.null, .int 0, .int 0, .int 0])), (bv, .inl (cB, 16, .inl (fun _ => 0)))] := hD
  refine W.widen (k := 1) (n := 16) (Nat.le_of_ble_eq_true rfl) (Nat.le_of_ble_eq_true rfl) ?_
  refine va_put (D := (dC, dI)) (ci := 13) (v := .ref bv) (ty := (.array .byte)) (C := R_SB) (T := T_SB) (N := 4) hx hb htb in_SB ty_SB ty_SB_ok nm_SB hown hK hP hD hS 0 rfl rfl 0 (by decide) (htb _ m_55) (fun _ h9 => h9) rfl (by decide +kernel) rfl rfl (Nat.le_of_ble_eq_true rfl) d_AB_init_14 (fun H locs hP hD hS => ?_)
  have hP : va_P (dC, dI) vwCl [(x, .inr (13, [.ref bv, .int 0, .int 0, .int 0])), (bv, .inl (cB, 16, .inl (fun _ => 0)))] H := hP
  have hD : va_D A [(x, .inr (13, [.ref bv, .int 0, .int 0, .int 0])), (bv, .inl (cB, 16, .inl (fun _ => 0)))] := hD
  refine lv_aload_n hx hb d_AB_init_17 rfl (lv_at hl 0 rfl) ?_
  refine lv_iconst (v := 0) hx hb d_AB_init_18 (by decide) ?_
  refine va_put (D := (dC, dI)) (ci := 13) (v := .int 0) (ty := .byte) (C := R_SB) (T := T_SB) (N := 4) hx hb htb in_SB ty_SB ty_SB_ok nm_SB hown hK hP hD hS 0 rfl rfl 1 (by decide) (htb _ m_56) (fun _ h9 => h9) rfl (by decide +kernel) rfl rfl (Nat.le_of_ble_eq_true rfl) d_AB_init_19 (fun H locs hP hD hS => ?_)
  have hP : va_P (dC, dI) vwCl [(x, .inr (13, [.ref bv, .int 0, .int 0, .int 0])), (bv, .inl (cB, 16, .inl (fun _ => 0)))] H := hP
  have hD : va_D A [(x, .inr (13, [.ref bv, .int 0, .int 0, .int 0])), (bv, .inl (cB, 16, .inl (fun _ => 0)))] := hD
  refine lv_goto (tgt := 38) hx hb d_AB_init_22 rfl ?_
  have hP9 := hP.sub (ws' := [(x, .inr (13, [.ref bv, .int 0, .int 0, .int 0])), (bv, .inl (cB, 16, .inl (fun _ => 0)))]) [0, 1] rfl
  have hD9 := hD.sub (ws' := [(x, .inr (13, [.ref bv, .int 0, .int 0, .int 0])), (bv, .inl (cB, 16, .inl (fun _ => 0)))]) [0, 1] (by decide) rfl
  have hK9 := hK.sub (tys' := [(cB, .byte)]) [0] rfl
  refine W.widen (k := 1) (n := 16) (Nat.le_of_ble_eq_true rfl) (Nat.le_of_ble_eq_true rfl) ?_
  exact W.vret hx hb hr (fun t ht hW => ⟨⟨(), rfl, trivial, ⟨bv, cB, by rw [ht]; exact hP9, va_K.moved hW.alike hK9, hD9⟩⟩, hS.F ht⟩) hS.2.2 d_AB_init_38
set_option maxHeartbeats 1000000 in
set_option maxRecDepth 100000 in
/-- StringBuilder() -/
theorem k_SB_init (l : Launch) (dC : Nat → ClassId) (dI : Nat → Nat → Nat) (sz : Nat) (x : Nat) (em : Nat) (aK : Nat → Nat) (aV : Nat → Nat) : Met l y_SB_init ws_SB_init ({ frames := 2, cells := 1, slots := 16, locals := 34 }) (va_Pc [.ref x] (fun U => U.heap.size = sz ∧ va_P (dC, dI) vwCl [(x, .inr (13, [.null, .int 0, .int 0, .int 0]))] U.heap ∧ va_K (dC, dI) vwCl [] U ∧ va_D (fun _ => True) [(x, .inr (13, [.null, .int 0, .int 0, .int 0]))] ∧ EX em aK aV (va_A [(x, .inr (13, [.null, .int 0, .int 0, .int 0]))] sz) U U.heap)) (va_Qv (fun (u : Unit) => True) (fun u t => ∃ (bv : Nat) (cB : ClassId), va_P (dC, dI) vwCl [(x, .inr (13, [.ref bv, .int 0, .int 0, .int 0])), (bv, .inl (cB, 16, .inl (fun _ => 0)))] t.heap ∧ va_K (dC, dI) vwCl [(cB, .byte)] t ∧ va_D (va_A [(x, .inr (13, [.null, .int 0, .int 0, .int 0]))] sz) [(x, .inr (13, [.ref bv, .int 0, .int 0, .int 0])), (bv, .inl (cB, 16, .inl (fun _ => 0)))]) (va_A [(x, .inr (13, [.null, .int 0, .int 0, .int 0]))] sz)) 1 16 (va_A [(x, .inr (13, [.null, .int 0, .int 0, .int 0]))] sz) := by
  refine Met.ofW (cc := c_SB_init) (maxL := 1) (ret := none) (by decide) rfl ?_
  intro p e s m args below meth c s₁ B hml hv
  obtain ⟨rfl, hsz, hP, hK, hD0, hE⟩ := hv
  have hx := B.exec
  have hb := B.bytes
  have hr := B.returns
  have hts := atoms_spec (ws := ws_SB_init) B.pre
  have htb := fun w (h : w ∈ TBL) => hts w (List.mem_cons_of_mem _ h)
  have hown : s.vm.findClass R_SB = some m.cls := findClass_of_methodNamed B.named
  have hlocks := B.notSynchronized
  have hin : meth.name = "<init>" := (name_of_methodNamed B.named B.method).1
  subst hsz
  have hD := hD0.self (sz := s.heap.size)
  generalize hAe : va_A [(x, .inr (13, [.null, .int 0, .int 0, .int 0]))] s.heap.size = A at hD hE ⊢
  have hA : ∀ q : Nat, s.heap.size ≤ q → A q := fun q h => by rw [← hAe]; exact Or.inr h
  have hS : va_S A s.heap s.heap [] := va_S.rf
  have hP : va_P (dC, dI) vwCl [(x, .inr (13, [.null, .int 0, .int 0, .int 0]))] s.heap := hP
  have hl := lv_entry ([.ref x]) (n := 1) (Nat.le_of_ble_eq_true rfl)
  rw [lg_entry_eq]
  generalize (lg_sl ([.ref x]) ++ List.replicate (1 - (lg_sl ([.ref x])).length) Slot.unset).toArray = ls at hl ⊢
  have hl : lv_has ls 1 [(0, .ref x)] := hl
  refine lv_aload_n hx hb d_SB_init_0 rfl (lv_at hl 0 rfl) ?_
  refine lv_bipush (v := 16) hx hb d_SB_init_1 (by decide) ?_
  have hPc := hP.sub (ws' := [(x, .inr (13, [.null, .int 0, .int 0, .int 0]))]) [0] rfl
  have hDc := hD.sub (ws' := [(x, .inr (13, [.null, .int 0, .int 0, .int 0]))]) [0] (by decide) rfl
  have hFc := va_free (wc := [(x, .inr (13, [.null, .int 0, .int 0, .int 0]))]) hD hS hA [0] rfl
  have hKc := hK.sub (tys' := []) [] rfl
  refine va_callv (va_runI (As := [.int 16]) (rest := []) ⟨hx, hb, hml, hown, htb⟩ (k_AB_init l dC dI _ x em aK aV ) (cwI 1 htb (g_all (fun _ h => h) m_44) rfl rfl rfl (htb _ m_2) (htb _ m_42) (htb _ m_43) rfl (by decide +kernel) ⟨Nat.le_of_ble_eq_true rfl, Nat.le_of_ble_eq_true rfl⟩) ⟨fun a U g mk q => by obtain ⟨q0, q1, qP, qK, qD, z0⟩ := q; exact ⟨q0, q1, qP, va_K.moved (u := U) (U := U.calling g mk a) (Vm.Alike.refl U.vm) qK, qD, EX.same (U := U) (U' := U.calling g mk a) rfl z0⟩, fun U hU hW => ⟨rfl, by rw [hU], by rw [hU]; exact hPc, va_K.moved hW.alike hKc, hDc.weaken (fun _ _ _ _ => trivial), by rw [hU]; exact EX.warm hW ((hE.kept (fun a h1 h2 => hS.2.1 a h1 h2)).narrow hFc)⟩⟩ rfl rfl hl.1 rfl (lv_room (Nat.le_of_ble_eq_true rfl)) d_SB_init_3 ⟨Nat.le_of_ble_eq_true rfl, Nat.le_of_ble_eq_true rfl⟩) hS (fun q _ h => hFc q h) hFc (fun u1 t H1 locs ht hvm hw3 hB hz1 hk1 hS => ?_)
  obtain ⟨x5, x6, hP1, hK1, hD1⟩ := hB
  rw [ht] at hP1
  have hK1 := va_K.moved hvm.symm hK1
  have hw3 : True := hw3
  obtain ⟨hP, hD⟩ := va_join (wr := []) (w1 := [(x, .inr (13, [.ref x5, .int 0, .int 0, .int 0])), (x5, .inl (x6, 16, .inl (fun _ => 0)))]) hP hD [0] [] rfl rfl (by decide) (by decide) hk1 hFc hP1 hD1
  have hK := (hK.sub (tys' := []) [] rfl).app hK1
  generalize H1 = H at hP hS ⊢
  have hP : va_P (dC, dI) vwCl [(x, .inr (13, [.ref x5, .int 0, .int 0, .int 0])), (x5, .inl (x6, 16, .inl (fun _ => 0)))] H := hP
  have hD : va_D A [(x, .inr (13, [.ref x5, .int 0, .int 0, .int 0])), (x5, .inl (x6, 16, .inl (fun _ => 0)))] := hD
  have hK : va_K (dC, dI) vwCl [(x6, .byte)] s := hK
  refine W.widen (k := 1) (n := 16) (Nat.le_of_ble_eq_true rfl) (Nat.le_of_ble_eq_true rfl) ?_
  have hP9 := hP.sub (ws' := [(x, .inr (13, [.ref x5, .int 0, .int 0, .int 0])), (x5, .inl (x6, 16, .inl (fun _ => 0)))]) [0, 1] rfl
  have hD9 := hD.sub (ws' := [(x, .inr (13, [.ref x5, .int 0, .int 0, .int 0])), (x5, .inl (x6, 16, .inl (fun _ => 0)))]) [0, 1] (by decide) rfl
  have hK9 := hK.sub (tys' := [(x6, .byte)]) [0] rfl
  refine W.widen (k := 1) (n := 16) (Nat.le_of_ble_eq_true rfl) (Nat.le_of_ble_eq_true rfl) ?_
  exact W.vret hx hb hr (fun t ht hW => ⟨⟨(), rfl, trivial, ⟨x5, x6, by rw [ht]; exact hP9, va_K.moved hW.alike hK9, hD9⟩⟩, hS.F ht⟩) hS.2.2 d_SB_init_6
set_option maxHeartbeats 1000000 in
set_option maxRecDepth 100000 in
/-- size() -/
theorem k_AL_size (l : Launch) (dC : Nat → ClassId) (dI : Nat → Nat → Nat) (sz : Nat) (x : Nat) (mo : Int32) (ed : Nat) (n : Int32) : Met l y_AL_size ws_AL_size ({ frames := 0, cells := 0, slots := 0, locals := 0 }) (va_Pc [.ref x] (fun U => U.heap.size = sz ∧ va_P (dC, dI) vwCl [(x, .inr (14, [.ref ed, .int n, .int mo]))] U.heap ∧ va_K (dC, dI) vwCl [] U ∧ va_D (fun _ => True) [(x, .inr (14, [.ref ed, .int n, .int mo]))])) (va_Qi (fun (r : Int32) (u : Unit) => r = n) (fun u t => va_P (dC, dI) vwCl [(x, .inr (14, [.ref ed, .int n, .int mo]))] t.heap ∧ va_K (dC, dI) vwCl [] t ∧ va_D (va_A [(x, .inr (14, [.ref ed, .int n, .int mo]))] sz) [(x, .inr (14, [.ref ed, .int n, .int mo]))]) (va_A [(x, .inr (14, [.ref ed, .int n, .int mo]))] sz)) 0 0 (va_A [(x, .inr (14, [.ref ed, .int n, .int mo]))] sz) := by
  refine Met.ofW (cc := c_AL_size) (maxL := 1) (ret := (some .int)) (by decide) rfl ?_
  intro p e s m args below meth c s₁ B hml hv
  obtain ⟨rfl, hsz, hP, hK, hD0⟩ := hv
  have hx := B.exec
  have hb := B.bytes
  have hr := B.returns
  have hts := atoms_spec (ws := ws_AL_size) B.pre
  have htb := fun w (h : w ∈ TBL) => hts w (List.mem_cons_of_mem _ h)
  have hown : s.vm.findClass R_AL = some m.cls := findClass_of_methodNamed B.named
  have hlocks := B.notSynchronized
  subst hsz
  have hD := hD0.self (sz := s.heap.size)
  generalize hAe : va_A [(x, .inr (14, [.ref ed, .int n, .int mo]))] s.heap.size = A at hD ⊢
  have hA : ∀ q : Nat, s.heap.size ≤ q → A q := fun q h => by rw [← hAe]; exact Or.inr h
  have hS : va_S A s.heap s.heap [] := va_S.rf
  have hP : va_P (dC, dI) vwCl [(x, .inr (14, [.ref ed, .int n, .int mo]))] s.heap := hP
  have hl := lv_entry ([.ref x]) (n := 1) (Nat.le_of_ble_eq_true rfl)
  rw [lg_entry_eq]
  generalize (lg_sl ([.ref x]) ++ List.replicate (1 - (lg_sl ([.ref x])).length) Slot.unset).toArray = ls at hl ⊢
  have hl : lv_has ls 1 [(0, .ref x)] := hl
  refine lv_aload_n hx hb d_AL_size_0 rfl (lv_at hl 0 rfl) ?_
  refine va_get (D := (dC, dI)) (ci := 14) (v := .int n) (C := R_AL) (T := T_AL) (N := 3) hx hb htb in_AL hown hK hP 0 rfl rfl 1 (by decide) (htb _ m_88) (fun _ h9 => h9) rfl d_AL_size_1 ?_
  have hP9 := hP.sub (ws' := [(x, .inr (14, [.ref ed, .int n, .int mo]))]) [0] rfl
  have hD9 := hD.sub (ws' := [(x, .inr (14, [.ref ed, .int n, .int mo]))]) [0] (by decide) rfl
  have hK9 := hK.sub (tys' := []) [] rfl
  refine W.widen (k := 0) (n := 0) (Nat.le_of_ble_eq_true rfl) (Nat.le_of_ble_eq_true rfl) ?_
  exact W.iret (v := n) hx hb hr (fun t ht hW => ⟨⟨n, (), rfl, rfl, ⟨by rw [ht]; exact hP9, va_K.moved hW.alike hK9, hD9⟩⟩, hS.F ht⟩) hS.2.2 d_AL_size_4
set_option maxHeartbeats 1000000 in
set_option maxRecDepth 100000 in
/-- Cursor(letters, end, builder): at 0 -/
theorem k_CU_init (l : Launch) (dC : Nat → ClassId) (dI : Nat → Nat → Nat) (sz : Nat) (x : Nat) (dl : Nat) (n : Int32) (sb : Nat) : Met l y_CU_init ws_CU_init ({ frames := 1, cells := 0, slots := 0, locals := 12 }) (va_Pc [.ref x, .ref dl, .int n, .ref sb] (fun U => U.heap.size = sz ∧ va_P (dC, dI) vwCl [(x, .inr (1, [.null, .int 0, .int 0, .null]))] U.heap ∧ va_K (dC, dI) vwCl [] U ∧ va_D (fun _ => True) [(x, .inr (1, [.null, .int 0, .int 0, .null]))])) (va_Qv (fun (u : Unit) => True) (fun u t => va_P (dC, dI) vwCl [(x, .inr (1, [.ref dl, .int n, .int 0, .ref sb]))] t.heap ∧ va_K (dC, dI) vwCl [] t ∧ va_D (va_A [(x, .inr (1, [.null, .int 0, .int 0, .null]))] sz) [(x, .inr (1, [.ref dl, .int n, .int 0, .ref sb]))]) (va_A [(x, .inr (1, [.null, .int 0, .int 0, .null]))] sz)) 0 0 (va_A [(x, .inr (1, [.null, .int 0, .int 0, .null]))] sz) := by
  refine Met.ofW (cc := c_CU_init) (maxL := 4) (ret := none) (by decide) rfl ?_
  intro p e s m args below meth c s₁ B hml hv
  obtain ⟨rfl, hsz, hP, hK, hD0⟩ := hv
  have hx := B.exec
  have hb := B.bytes
  have hr := B.returns
  have hts := atoms_spec (ws := ws_CU_init) B.pre
  have htb := fun w (h : w ∈ TBL) => hts w (List.mem_cons_of_mem _ h)
  have hown : s.vm.findClass R_CU = some m.cls := findClass_of_methodNamed B.named
  have hlocks := B.notSynchronized
  have hin : meth.name = "<init>" := (name_of_methodNamed B.named B.method).1
  subst hsz
  have hD := hD0.self (sz := s.heap.size)
  generalize hAe : va_A [(x, .inr (1, [.null, .int 0, .int 0, .null]))] s.heap.size = A at hD ⊢
  have hA : ∀ q : Nat, s.heap.size ≤ q → A q := fun q h => by rw [← hAe]; exact Or.inr h
  have hS : va_S A s.heap s.heap [] := va_S.rf
  have hP : va_P (dC, dI) vwCl [(x, .inr (1, [.null, .int 0, .int 0, .null]))] s.heap := hP
  have hl := lv_entry ([.ref x, .ref dl, .int n, .ref sb]) (n := 4) (Nat.le_of_ble_eq_true rfl)
  rw [lg_entry_eq]
  generalize (lg_sl ([.ref x, .ref dl, .int n, .ref sb]) ++ List.replicate (4 - (lg_sl ([.ref x, .ref dl, .int n, .ref sb])).length) Slot.unset).toArray = ls at hl ⊢
  have hl : lv_has ls 4 [(0, .ref x), (1, .ref dl), (2, .int n), (3, .ref sb)] := hl
  refine lv_aload_n hx hb d_CU_init_0 rfl (lv_at hl 0 rfl) ?_
  refine W.objInit hx hb hown (htb _ m_141) (htb _ m_35) (htb _ m_36) rfl (by rw [hml]; exact hl.1) rfl d_CU_init_1 (Nat.le_of_ble_eq_true rfl) (Nat.le_of_ble_eq_true rfl) ?_
  refine W.eq (g2 := F0 m 4 ls []) rfl ?_
  refine lv_aload_n hx hb d_CU_init_4 rfl (lv_at hl 0 rfl) ?_
  refine lv_iconst (v := 0) hx hb d_CU_init_5 (by decide) ?_
  refine va_put (D := (dC, dI)) (ci := 1) (v := .int 0) (ty := .int) (C := R_CU) (T := T_CU) (N := 4) hx hb htb in_CU ty_CU ty_CU_ok nm_CU hown hK hP hD hS 0 rfl rfl 2 (by decide) (htb _ m_144) (fun _ h9 => h9) rfl (by decide +kernel) rfl rfl (Nat.le_of_ble_eq_true rfl) d_CU_init_6 (fun H locs hP hD hS => ?_)
  have hP : va_P (dC, dI) vwCl [(x, .inr (1, [.null, .int 0, .int 0, .null]))] H := hP
  have hD : va_D A [(x, .inr (1, [.null, .int 0, .int 0, .null]))] := hD
  refine lv_aload_n hx hb d_CU_init_9 rfl (lv_at hl 0 rfl) ?_
  refine lv_aload_n hx hb d_CU_init_10 rfl (lv_at hl 1 rfl) ?_
  refine va_putF (D := (dC, dI)) (ci := 1) (v := .ref dl) (ty := (.array .char)) (C := R_CU) (T := T_CU) (N := 4) hx hb htb in_CU ty_CU ty_CU_ok nm_CU hown hK hP hD hS 0 rfl rfl 0 (by decide) (htb _ m_142) (fun _ h9 => h9) rfl hin rfl (by decide +kernel) rfl rfl (Nat.le_of_ble_eq_true rfl) d_CU_init_11 (fun H locs hP hD hS => ?_)
  have hP : va_P (dC, dI) vwCl [(x, .inr (1, [.ref dl, .int 0, .int 0, .null]))] H := hP
  have hD : va_D A [(x, .inr (1, [.ref dl, .int 0, .int 0, .null]))] := hD
  refine lv_aload_n hx hb d_CU_init_14 rfl (lv_at hl 0 rfl) ?_
  refine lv_iload_n hx hb d_CU_init_15 rfl (lv_at hl 2 rfl) ?_
  refine va_putF (D := (dC, dI)) (ci := 1) (v := .int n) (ty := .int) (C := R_CU) (T := T_CU) (N := 4) hx hb htb in_CU ty_CU ty_CU_ok nm_CU hown hK hP hD hS 0 rfl rfl 1 (by decide) (htb _ m_143) (fun _ h9 => h9) rfl hin rfl (by decide +kernel) rfl rfl (Nat.le_of_ble_eq_true rfl) d_CU_init_16 (fun H locs hP hD hS => ?_)
  have hP : va_P (dC, dI) vwCl [(x, .inr (1, [.ref dl, .int n, .int 0, .null]))] H := hP
  have hD : va_D A [(x, .inr (1, [.ref dl, .int n, .int 0, .null]))] := hD
  refine lv_aload_n hx hb d_CU_init_19 rfl (lv_at hl 0 rfl) ?_
  refine lv_aload_n hx hb d_CU_init_20 rfl (lv_at hl 3 rfl) ?_
  refine va_putF (D := (dC, dI)) (ci := 1) (v := .ref sb) (ty := (.object "java/lang/StringBuilder")) (C := R_CU) (T := T_CU) (N := 4) hx hb htb in_CU ty_CU ty_CU_ok nm_CU hown hK hP hD hS 0 rfl rfl 3 (by decide) (htb _ m_145) (fun _ h9 => h9) rfl hin rfl (by decide +kernel) rfl rfl (Nat.le_of_ble_eq_true rfl) d_CU_init_21 (fun H locs hP hD hS => ?_)
  have hP : va_P (dC, dI) vwCl [(x, .inr (1, [.ref dl, .int n, .int 0, .ref sb]))] H := hP
  have hD : va_D A [(x, .inr (1, [.ref dl, .int n, .int 0, .ref sb]))] := hD
  have hP9 := hP.sub (ws' := [(x, .inr (1, [.ref dl, .int n, .int 0, .ref sb]))]) [0] rfl
  have hD9 := hD.sub (ws' := [(x, .inr (1, [.ref dl, .int n, .int 0, .ref sb]))]) [0] (by decide) rfl
  have hK9 := hK.sub (tys' := []) [] rfl
  refine W.widen (k := 0) (n := 0) (Nat.le_of_ble_eq_true rfl) (Nat.le_of_ble_eq_true rfl) ?_
  exact W.vret hx hb hr (fun t ht hW => ⟨⟨(), rfl, trivial, ⟨by rw [ht]; exact hP9, va_K.moved hW.alike hK9, hD9⟩⟩, hS.F ht⟩) hS.2.2 d_CU_init_24
set_option maxHeartbeats 1000000 in
set_option maxRecDepth 100000 in
/-- JsonReader(cursor, limit): fault SYNTAX -/
theorem k_JR_init (l : Launch) (dC : Nat → ClassId) (dI : Nat → Nat → Nat) (sz : Nat) (x : Nat) (cu : Nat) (lim : Int32) : Met l y_JR_init ws_JR_init ({ frames := 1, cells := 0, slots := 0, locals := 12 }) (va_Pc [.ref x, .ref cu, .int lim] (fun U => U.heap.size = sz ∧ va_P (dC, dI) vwCl [(x, .inr (2, [.null, .int 0, .int 0]))] U.heap ∧ va_K (dC, dI) vwCl [] U ∧ va_D (fun _ => True) [(x, .inr (2, [.null, .int 0, .int 0]))])) (va_Qv (fun (u : Unit) => True) (fun u t => va_P (dC, dI) vwCl [(x, .inr (2, [.ref cu, .int lim, .int 1]))] t.heap ∧ va_K (dC, dI) vwCl [] t ∧ va_D (va_A [(x, .inr (2, [.null, .int 0, .int 0]))] sz) [(x, .inr (2, [.ref cu, .int lim, .int 1]))]) (va_A [(x, .inr (2, [.null, .int 0, .int 0]))] sz)) 0 0 (va_A [(x, .inr (2, [.null, .int 0, .int 0]))] sz) := by
  refine Met.ofW (cc := c_JR_init) (maxL := 3) (ret := none) (by decide) rfl ?_
  intro p e s m args below meth c s₁ B hml hv
  obtain ⟨rfl, hsz, hP, hK, hD0⟩ := hv
  have hx := B.exec
  have hb := B.bytes
  have hr := B.returns
  have hts := atoms_spec (ws := ws_JR_init) B.pre
  have htb := fun w (h : w ∈ TBL) => hts w (List.mem_cons_of_mem _ h)
  have hown : s.vm.findClass R_JR = some m.cls := findClass_of_methodNamed B.named
  have hlocks := B.notSynchronized
  have hin : meth.name = "<init>" := (name_of_methodNamed B.named B.method).1
  subst hsz
  have hD := hD0.self (sz := s.heap.size)
  generalize hAe : va_A [(x, .inr (2, [.null, .int 0, .int 0]))] s.heap.size = A at hD ⊢
  have hA : ∀ q : Nat, s.heap.size ≤ q → A q := fun q h => by rw [← hAe]; exact Or.inr h
  have hS : va_S A s.heap s.heap [] := va_S.rf
  have hP : va_P (dC, dI) vwCl [(x, .inr (2, [.null, .int 0, .int 0]))] s.heap := hP
  have hl := lv_entry ([.ref x, .ref cu, .int lim]) (n := 3) (Nat.le_of_ble_eq_true rfl)
  rw [lg_entry_eq]
  generalize (lg_sl ([.ref x, .ref cu, .int lim]) ++ List.replicate (3 - (lg_sl ([.ref x, .ref cu, .int lim])).length) Slot.unset).toArray = ls at hl ⊢
  have hl : lv_has ls 3 [(0, .ref x), (1, .ref cu), (2, .int lim)] := hl
  refine lv_aload_n hx hb d_JR_init_0 rfl (lv_at hl 0 rfl) ?_
  refine W.objInit hx hb hown (htb _ m_160) (htb _ m_35) (htb _ m_36) rfl (by rw [hml]; exact hl.1) rfl d_JR_init_1 (Nat.le_of_ble_eq_true rfl) (Nat.le_of_ble_eq_true rfl) ?_
  refine W.eq (g2 := F0 m 4 ls []) rfl ?_
  refine lv_aload_n hx hb d_JR_init_4 rfl (lv_at hl 0 rfl) ?_
  refine lv_iconst (v := 1) hx hb d_JR_init_5 (by decide) ?_
  refine va_put (D := (dC, dI)) (ci := 2) (v := .int 1) (ty := .int) (C := R_JR) (T := T_JR) (N := 3) hx hb htb in_JR ty_JR ty_JR_ok nm_JR hown hK hP hD hS 0 rfl rfl 2 (by decide) (htb _ m_163) (fun _ h9 => h9) rfl (by decide +kernel) rfl rfl (Nat.le_of_ble_eq_true rfl) d_JR_init_6 (fun H locs hP hD hS => ?_)
  have hP : va_P (dC, dI) vwCl [(x, .inr (2, [.null, .int 0, .int 1]))] H := hP
  have hD : va_D A [(x, .inr (2, [.null, .int 0, .int 1]))] := hD
  refine lv_aload_n hx hb d_JR_init_9 rfl (lv_at hl 0 rfl) ?_
  refine lv_aload_n hx hb d_JR_init_10 rfl (lv_at hl 1 rfl) ?_
  refine va_putF (D := (dC, dI)) (ci := 2) (v := .ref cu) (ty := (.object "PatchStore$Cursor")) (C := R_JR) (T := T_JR) (N := 3) hx hb htb in_JR ty_JR ty_JR_ok nm_JR hown hK hP hD hS 0 rfl rfl 0 (by decide) (htb _ m_161) (fun _ h9 => h9) rfl hin rfl (by decide +kernel) rfl rfl (Nat.le_of_ble_eq_true rfl) d_JR_init_11 (fun H locs hP hD hS => ?_)
  have hP : va_P (dC, dI) vwCl [(x, .inr (2, [.ref cu, .int 0, .int 1]))] H := hP
  have hD : va_D A [(x, .inr (2, [.ref cu, .int 0, .int 1]))] := hD
  refine lv_aload_n hx hb d_JR_init_14 rfl (lv_at hl 0 rfl) ?_
  refine lv_iload_n hx hb d_JR_init_15 rfl (lv_at hl 2 rfl) ?_
  refine va_putF (D := (dC, dI)) (ci := 2) (v := .int lim) (ty := .int) (C := R_JR) (T := T_JR) (N := 3) hx hb htb in_JR ty_JR ty_JR_ok nm_JR hown hK hP hD hS 0 rfl rfl 1 (by decide) (htb _ m_162) (fun _ h9 => h9) rfl hin rfl (by decide +kernel) rfl rfl (Nat.le_of_ble_eq_true rfl) d_JR_init_16 (fun H locs hP hD hS => ?_)
  have hP : va_P (dC, dI) vwCl [(x, .inr (2, [.ref cu, .int lim, .int 1]))] H := hP
  have hD : va_D A [(x, .inr (2, [.ref cu, .int lim, .int 1]))] := hD
  have hP9 := hP.sub (ws' := [(x, .inr (2, [.ref cu, .int lim, .int 1]))]) [0] rfl
  have hD9 := hD.sub (ws' := [(x, .inr (2, [.ref cu, .int lim, .int 1]))]) [0] (by decide) rfl
  have hK9 := hK.sub (tys' := []) [] rfl
  refine W.widen (k := 0) (n := 0) (Nat.le_of_ble_eq_true rfl) (Nat.le_of_ble_eq_true rfl) ?_
  exact W.vret hx hb hr (fun t ht hW => ⟨⟨(), rfl, trivial, ⟨by rw [ht]; exact hP9, va_K.moved hW.alike hK9, hD9⟩⟩, hS.F ht⟩) hS.2.2 d_JR_init_19
set_option maxHeartbeats 1000000 in
set_option maxRecDepth 100000 in
/-- takeDraft(): a new cursor over the letters; the draft is empty -/
theorem k_PS_takeDraft (l : Launch) (dC : Nat → ClassId) (dI : Nat → Nat → Nat) (sz : Nat) (x : Nat) (lim : Int32) (rm : Int32) (dl : Nat) (sb : Nat) (dc : Nat) (cm : Nat) (fo : Nat) (n : Int32) : Met l y_PS_takeDraft ws_PS_takeDraft ({ frames := 2, cells := 1, slots := 4, locals := 35 }) (va_Pc [.ref x] (fun U => U.heap.size = sz ∧ va_P (dC, dI) vwCl [(x, .inr (0, [.int lim, .int rm, .ref dl, .int n, .ref sb, .ref dc, .ref cm, .ref fo]))] U.heap ∧ va_K (dC, dI) vwCl [] U ∧ va_D (fun _ => True) [(x, .inr (0, [.int lim, .int rm, .ref dl, .int n, .ref sb, .ref dc, .ref cm, .ref fo]))])) (va_Qr (fun (u : Unit) => True) (fun u ra t => va_P (dC, dI) vwCl [(x, .inr (0, [.int lim, .int rm, .ref dl, .int 0, .ref sb, .ref dc, .ref cm, .ref fo])), (ra, .inr (1, [.ref dl, .int n, .int 0, .ref sb]))] t.heap ∧ va_K (dC, dI) vwCl [] t ∧ va_D (va_A [(x, .inr (0, [.int lim, .int rm, .ref dl, .int n, .ref sb, .ref dc, .ref cm, .ref fo]))] sz) [(x, .inr (0, [.int lim, .int rm, .ref dl, .int 0, .ref sb, .ref dc, .ref cm, .ref fo])), (ra, .inr (1, [.ref dl, .int n, .int 0, .ref sb]))]) (va_A [(x, .inr (0, [.int lim, .int rm, .ref dl, .int n, .ref sb, .ref dc, .ref cm, .ref fo]))] sz)) 1 4 (va_A [(x, .inr (0, [.int lim, .int rm, .ref dl, .int n, .ref sb, .ref dc, .ref cm, .ref fo]))] sz) := by
  refine Met.ofW (cc := c_PS_takeDraft) (maxL := 2) (ret := (some (.object "PatchStore$Cursor"))) (by decide) rfl ?_
  intro p e s m args below meth c s₁ B hml hv
  obtain ⟨rfl, hsz, hP, hK, hD0⟩ := hv
  have hx := B.exec
  have hb := B.bytes
  have hr := B.returns
  have hts := atoms_spec (ws := ws_PS_takeDraft) B.pre
  have htb := fun w (h : w ∈ TBL) => hts w (List.mem_cons_of_mem _ h)
  have hown : s.vm.findClass R_PS = some m.cls := findClass_of_methodNamed B.named
  have hlocks := B.notSynchronized
  subst hsz
  have hD := hD0.self (sz := s.heap.size)
  generalize hAe : va_A [(x, .inr (0, [.int lim, .int rm, .ref dl, .int n, .ref sb, .ref dc, .ref cm, .ref fo]))] s.heap.size = A at hD ⊢
  have hA : ∀ q : Nat, s.heap.size ≤ q → A q := fun q h => by rw [← hAe]; exact Or.inr h
  have hS : va_S A s.heap s.heap [] := va_S.rf
  have hP : va_P (dC, dI) vwCl [(x, .inr (0, [.int lim, .int rm, .ref dl, .int n, .ref sb, .ref dc, .ref cm, .ref fo]))] s.heap := hP
  have hl := lv_entry ([.ref x]) (n := 2) (Nat.le_of_ble_eq_true rfl)
  rw [lg_entry_eq]
  generalize (lg_sl ([.ref x]) ++ List.replicate (2 - (lg_sl ([.ref x])).length) Slot.unset).toArray = ls at hl ⊢
  have hl : lv_has ls 2 [(0, .ref x)] := hl
  refine va_new (ci := 1) (fs := [.null, .int 0, .int 0, .null]) (C := R_CU) (T := T_CU) (N := 4) hx hb htb in_CU ty_CU ty_CU_ok hown (htb _ m_136) (htb _ m_137) (htb _ m_10) hK hP hD hS hA rfl (fun j hj => by rcases (show j = 0 ∨ j = 1 ∨ j = 2 ∨ j = 3 by omega) with rfl | rfl | rfl | rfl <;> rfl) (Nat.le_of_ble_eq_true rfl) (Nat.le_of_ble_eq_true rfl) d_PS_takeDraft_0 (fun cu H hP hD hS => ?_)
  have hP : va_P (dC, dI) vwCl [(x, .inr (0, [.int lim, .int rm, .ref dl, .int n, .ref sb, .ref dc, .ref cm, .ref fo])), (cu, .inr (1, [.null, .int 0, .int 0, .null]))] H := hP
  have hD : va_D A [(x, .inr (0, [.int lim, .int rm, .ref dl, .int n, .ref sb, .ref dc, .ref cm, .ref fo])), (cu, .inr (1, [.null, .int 0, .int 0, .null]))] := hD
  refine W.widen (k := 1) (n := 4) (Nat.le_of_ble_eq_true rfl) (Nat.le_of_ble_eq_true rfl) ?_
  refine lv_dup hx hb d_PS_takeDraft_3 rfl ?_
  refine lv_aload_n hx hb d_PS_takeDraft_4 rfl (lv_at hl 0 rfl) ?_
  refine va_get (D := (dC, dI)) (ci := 0) (v := .ref dl) (C := R_PS) (T := T_PS) (N := 8) hx hb htb in_PS hown hK hP 0 rfl rfl 2 (by decide) (htb _ m_101) (fun _ h9 => h9) rfl d_PS_takeDraft_5 ?_
  refine lv_aload_n hx hb d_PS_takeDraft_8 rfl (lv_at hl 0 rfl) ?_
  refine va_get (D := (dC, dI)) (ci := 0) (v := .int n) (C := R_PS) (T := T_PS) (N := 8) hx hb htb in_PS hown hK hP 0 rfl rfl 3 (by decide) (htb _ m_102) (fun _ h9 => h9) rfl d_PS_takeDraft_9 ?_
  refine lv_aload_n hx hb d_PS_takeDraft_12 rfl (lv_at hl 0 rfl) ?_
  refine va_get (D := (dC, dI)) (ci := 0) (v := .ref sb) (C := R_PS) (T := T_PS) (N := 8) hx hb htb in_PS hown hK hP 0 rfl rfl 4 (by decide) (htb _ m_103) (fun _ h9 => h9) rfl d_PS_takeDraft_13 ?_
  have hPc := hP.sub (ws' := [(cu, .inr (1, [.null, .int 0, .int 0, .null]))]) [1] rfl
  have hDc := hD.sub (ws' := [(cu, .inr (1, [.null, .int 0, .int 0, .null]))]) [1] (by decide) rfl
  have hFc := va_free (wc := [(cu, .inr (1, [.null, .int 0, .int 0, .null]))]) hD hS hA [1] rfl
  have hKc := hK.sub (tys' := []) [] rfl
  refine va_callv (va_runI (As := [.ref dl, .int n, .ref sb]) (rest := [.ref cu]) ⟨hx, hb, hml, hown, htb⟩ (k_CU_init l dC dI _ cu dl n sb ) (cwI 3 htb (g_all (fun _ h => h) m_140) rfl rfl rfl (htb _ m_10) (htb _ m_138) (htb _ m_139) rfl (by decide +kernel) ⟨Nat.le_of_ble_eq_true rfl, Nat.le_of_ble_eq_true rfl⟩) ⟨fun a U g mk q => by obtain ⟨q0, q1, qP, qK, qD⟩ := q; exact ⟨q0, q1, qP, va_K.moved (u := U) (U := U.calling g mk a) (Vm.Alike.refl U.vm) qK, qD⟩, fun U hU hW => ⟨rfl, by rw [hU], by rw [hU]; exact hPc, va_K.moved hW.alike hKc, hDc.weaken (fun _ _ _ _ => trivial)⟩⟩ rfl rfl hl.1 rfl (lv_room (Nat.le_of_ble_eq_true rfl)) d_PS_takeDraft_16 ⟨Nat.le_of_ble_eq_true rfl, Nat.le_of_ble_eq_true rfl⟩) hS (fun q _ h => hFc q h) hFc (fun u1 t H1 locs ht hvm hw3 hB hz1 hk1 hS => ?_)
  obtain ⟨hP1, hK1, hD1⟩ := hB
  rw [ht] at hP1
  have hK1 := va_K.moved hvm.symm hK1
  have hw3 : True := hw3
  obtain ⟨hP, hD⟩ := va_join (wr := [(x, .inr (0, [.int lim, .int rm, .ref dl, .int n, .ref sb, .ref dc, .ref cm, .ref fo]))]) (w1 := [(cu, .inr (1, [.ref dl, .int n, .int 0, .ref sb]))]) hP hD [1] [0] rfl rfl (by decide) (by decide) hk1 hFc hP1 hD1
  have hK := (hK.sub (tys' := []) [] rfl).app hK1
  generalize H1 = H at hP hS ⊢
  have hP : va_P (dC, dI) vwCl [(x, .inr (0, [.int lim, .int rm, .ref dl, .int n, .ref sb, .ref dc, .ref cm, .ref fo])), (cu, .inr (1, [.ref dl, .int n, .int 0, .ref sb]))] H := hP
  have hD : va_D A [(x, .inr (0, [.int lim, .int rm, .ref dl, .int n, .ref sb, .ref dc, .ref cm, .ref fo])), (cu, .inr (1, [.ref dl, .int n, .int 0, .ref sb]))] := hD
  have hK : va_K (dC, dI) vwCl [] s := hK
  refine lv_astore_n hx hb d_PS_takeDraft_19 rfl hl (by decide) rfl (fun ls hl => ?_)
  have hl : lv_has ls 2 [(1, .ref cu), (0, .ref x)] := hl
  refine lv_aload_n hx hb d_PS_takeDraft_20 rfl (lv_at hl 1 rfl) ?_
  refine lv_iconst (v := 0) hx hb d_PS_takeDraft_21 (by decide) ?_
  refine va_put (D := (dC, dI)) (ci := 0) (v := .int 0) (ty := .int) (C := R_PS) (T := T_PS) (N := 8) hx hb htb in_PS ty_PS ty_PS_ok nm_PS hown hK hP hD hS 0 rfl rfl 3 (by decide) (htb _ m_102) (fun _ h9 => h9) rfl (by decide +kernel) rfl rfl (Nat.le_of_ble_eq_true rfl) d_PS_takeDraft_22 (fun H locs hP hD hS => ?_)
  have hP : va_P (dC, dI) vwCl [(x, .inr (0, [.int lim, .int rm, .ref dl, .int 0, .ref sb, .ref dc, .ref cm, .ref fo])), (cu, .inr (1, [.ref dl, .int n, .int 0, .ref sb]))] H := hP
  have hD : va_D A [(x, .inr (0, [.int lim, .int rm, .ref dl, .int 0, .ref sb, .ref dc, .ref cm, .ref fo])), (cu, .inr (1, [.ref dl, .int n, .int 0, .ref sb]))] := hD
  refine lv_aload_n hx hb d_PS_takeDraft_25 rfl (lv_at hl 0 rfl) ?_
  have hP9 := hP.sub (ws' := [(x, .inr (0, [.int lim, .int rm, .ref dl, .int 0, .ref sb, .ref dc, .ref cm, .ref fo])), (cu, .inr (1, [.ref dl, .int n, .int 0, .ref sb]))]) [0, 1] rfl
  have hD9 := hD.sub (ws' := [(x, .inr (0, [.int lim, .int rm, .ref dl, .int 0, .ref sb, .ref dc, .ref cm, .ref fo])), (cu, .inr (1, [.ref dl, .int n, .int 0, .ref sb]))]) [0, 1] (by decide) rfl
  have hK9 := hK.sub (tys' := []) [] rfl
  refine W.widen (k := 1) (n := 4) (Nat.le_of_ble_eq_true rfl) (Nat.le_of_ble_eq_true rfl) ?_
  exact W.aret (v := .ref cu) hx hb hr (Or.inl ⟨_, rfl⟩) (Or.inr ⟨_, rfl⟩) (fun t ht hW => ⟨⟨(), cu, rfl, trivial, ⟨by rw [ht]; exact hP9, va_K.moved hW.alike hK9, hD9⟩⟩, hS.F ht⟩) hS.2.2 d_PS_takeDraft_26
set_option maxHeartbeats 1000000 in
set_option maxRecDepth 100000 in
/-- draft() -/
theorem k_PS_draft (l : Launch) (dC : Nat → ClassId) (dI : Nat → Nat → Nat) (sz : Nat) (x : Nat) (lim : Int32) (rm : Int32) (dl : Nat) (sb : Nat) (dc : Nat) (cm : Nat) (fo : Nat) (n : Int32) : Met l y_PS_draft ws_PS_draft ({ frames := 0, cells := 0, slots := 0, locals := 0 }) (va_Pc [.ref x] (fun U => U.heap.size = sz ∧ va_P (dC, dI) vwCl [(x, .inr (0, [.int lim, .int rm, .ref dl, .int n, .ref sb, .ref dc, .ref cm, .ref fo]))] U.heap ∧ va_K (dC, dI) vwCl [] U ∧ va_D (fun _ => True) [(x, .inr (0, [.int lim, .int rm, .ref dl, .int n, .ref sb, .ref dc, .ref cm, .ref fo]))])) (va_Qi (fun (r : Int32) (u : Unit) => r = n) (fun u t => va_P (dC, dI) vwCl [(x, .inr (0, [.int lim, .int rm, .ref dl, .int n, .ref sb, .ref dc, .ref cm, .ref fo]))] t.heap ∧ va_K (dC, dI) vwCl [] t ∧ va_D (va_A [(x, .inr (0, [.int lim, .int rm, .ref dl, .int n, .ref sb, .ref dc, .ref cm, .ref fo]))] sz) [(x, .inr (0, [.int lim, .int rm, .ref dl, .int n, .ref sb, .ref dc, .ref cm, .ref fo]))]) (va_A [(x, .inr (0, [.int lim, .int rm, .ref dl, .int n, .ref sb, .ref dc, .ref cm, .ref fo]))] sz)) 0 0 (va_A [(x, .inr (0, [.int lim, .int rm, .ref dl, .int n, .ref sb, .ref dc, .ref cm, .ref fo]))] sz) := by
  refine Met.ofW (cc := c_PS_draft) (maxL := 1) (ret := (some .int)) (by decide) rfl ?_
  intro p e s m args below meth c s₁ B hml hv
  obtain ⟨rfl, hsz, hP, hK, hD0⟩ := hv
  have hx := B.exec
  have hb := B.bytes
  have hr := B.returns
  have hts := atoms_spec (ws := ws_PS_draft) B.pre
  have htb := fun w (h : w ∈ TBL) => hts w (List.mem_cons_of_mem _ h)
  have hown : s.vm.findClass R_PS = some m.cls := findClass_of_methodNamed B.named
  have hlocks := B.notSynchronized
  subst hsz
  have hD := hD0.self (sz := s.heap.size)
  generalize hAe : va_A [(x, .inr (0, [.int lim, .int rm, .ref dl, .int n, .ref sb, .ref dc, .ref cm, .ref fo]))] s.heap.size = A at hD ⊢
  have hA : ∀ q : Nat, s.heap.size ≤ q → A q := fun q h => by rw [← hAe]; exact Or.inr h
  have hS : va_S A s.heap s.heap [] := va_S.rf
  have hP : va_P (dC, dI) vwCl [(x, .inr (0, [.int lim, .int rm, .ref dl, .int n, .ref sb, .ref dc, .ref cm, .ref fo]))] s.heap := hP
  have hl := lv_entry ([.ref x]) (n := 1) (Nat.le_of_ble_eq_true rfl)
  rw [lg_entry_eq]
  generalize (lg_sl ([.ref x]) ++ List.replicate (1 - (lg_sl ([.ref x])).length) Slot.unset).toArray = ls at hl ⊢
  have hl : lv_has ls 1 [(0, .ref x)] := hl
  refine lv_aload_n hx hb d_PS_draft_0 rfl (lv_at hl 0 rfl) ?_
  refine va_get (D := (dC, dI)) (ci := 0) (v := .int n) (C := R_PS) (T := T_PS) (N := 8) hx hb htb in_PS hown hK hP 0 rfl rfl 3 (by decide) (htb _ m_102) (fun _ h9 => h9) rfl d_PS_draft_1 ?_
  have hP9 := hP.sub (ws' := [(x, .inr (0, [.int lim, .int rm, .ref dl, .int n, .ref sb, .ref dc, .ref cm, .ref fo]))]) [0] rfl
  have hD9 := hD.sub (ws' := [(x, .inr (0, [.int lim, .int rm, .ref dl, .int n, .ref sb, .ref dc, .ref cm, .ref fo]))]) [0] (by decide) rfl
  have hK9 := hK.sub (tys' := []) [] rfl
  refine W.widen (k := 0) (n := 0) (Nat.le_of_ble_eq_true rfl) (Nat.le_of_ble_eq_true rfl) ?_
  exact W.iret (v := n) hx hb hr (fun t ht hW => ⟨⟨n, (), rfl, rfl, ⟨by rw [ht]; exact hP9, va_K.moved hW.alike hK9, hD9⟩⟩, hS.F ht⟩) hS.2.2 d_PS_draft_4
