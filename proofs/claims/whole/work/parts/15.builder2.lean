set_option maxHeartbeats 1000000 in
set_option maxRecDepth 100000 in
/-- Arrays.copyOf of 16 bytes to 34 -/
theorem k_AR_copyOf_16 (l : Launch) (dC : Nat → ClassId) (dI : Nat → Nat → Nat) (sz : Nat) (bv : Nat) (cB : ClassId) (f : Nat → Int32) (hf : sb_Fit f) : Met l y_AR_copyOf ws_AR_copyOf ({ frames := 1, cells := 1, slots := 34, locals := 40 }) (va_Pc [.ref bv, .int 34] (fun U => U.heap.size = sz ∧ va_P (dC, dI) vwCl [(bv, .inl (cB, 16, .inl f))] U.heap ∧ va_K (dC, dI) vwCl [(cB, .byte)] U ∧ va_D (fun _ => True) [(bv, .inl (cB, 16, .inl f))])) (va_Qr (fun (u : Unit) => True) (fun u ra t => va_P (dC, dI) vwCl [(bv, .inl (cB, 16, .inl f)), (ra, .inl (cB, 34, .inl (va_cpy f (fun _ => 0) 0 0 16)))] t.heap ∧ va_K (dC, dI) vwCl [(cB, .byte)] t ∧ va_D (va_A [(bv, .inl (cB, 16, .inl f))] sz) [(bv, .inl (cB, 16, .inl f)), (ra, .inl (cB, 34, .inl (va_cpy f (fun _ => 0) 0 0 16)))]) (va_A [(bv, .inl (cB, 16, .inl f))] sz)) 1 34 (va_A [(bv, .inl (cB, 16, .inl f))] sz) := by
  refine Met.ofW (cc := c_AR_copyOf) (maxL := 3) (ret := (some (.array .byte))) (by decide) rfl ?_
  intro p e s m args below meth c s₁ B hml hv
  obtain ⟨rfl, hsz, hP, hK, hD0⟩ := hv
  have hx := B.exec
  have hb := B.bytes
  have hr := B.returns
  have hts := atoms_spec (ws := ws_AR_copyOf) B.pre
  have htb := fun w (h : w ∈ TBL) => hts w (List.mem_cons_of_mem _ h)
  have hown : s.vm.findClass R_AR = some m.cls := findClass_of_methodNamed B.named
  have hlocks := B.notSynchronized
  subst hsz
  have hD := hD0.self (sz := s.heap.size)
  generalize hAe : va_A [(bv, .inl (cB, 16, .inl f))] s.heap.size = A at hD ⊢
  have hA : ∀ q : Nat, s.heap.size ≤ q → A q := fun q h => by rw [← hAe]; exact Or.inr h
  have hS : va_S A s.heap s.heap [] := va_S.rf
  have hP : va_P (dC, dI) vwCl [(bv, .inl (cB, 16, .inl f))] s.heap := hP
  have hl := lv_entry ([.ref bv, .int 34]) (n := 3) (Nat.le_of_ble_eq_true rfl)
  rw [lg_entry_eq]
  generalize (lg_sl ([.ref bv, .int 34]) ++ List.replicate (3 - (lg_sl ([.ref bv, .int 34])).length) Slot.unset).toArray = ls at hl ⊢
  have hl : lv_has ls 3 [(0, .ref bv), (1, .int 34)] := hl
  refine lv_iload_n hx hb d_AR_copyOf_0 rfl (lv_at hl 1 rfl) ?_
  refine lv_aload_n hx hb d_AR_copyOf_1 rfl (lv_at hl 0 rfl) ?_
  refine va_alen (v := 16) hx hb hK hP 0 0 rfl rfl rfl d_AR_copyOf_2 ?_
  refine lv_icmp_ne (tgt := 14) hx hb d_AR_copyOf_3 rfl (fun _ => ?_) (fun h9 => absurd h9 (by decide))
  refine lv_iload_n hx hb d_AR_copyOf_14 rfl (lv_at hl 1 rfl) ?_
  refine va_newa (atype := .byte) (ty := .byte) (N' := 34) (a0 := (34, .inl (fun _ => 0))) hx hb (htb _ m_70) rfl hK hP hD hS hA (fun _ => rfl) (by decide) (by decide) (by decide) (Nat.le_of_ble_eq_true rfl) (Nat.le_of_ble_eq_true rfl) d_AR_copyOf_15 (fun bw cN H hK hP hD hS => ?_)
  have hK : va_K (dC, dI) vwCl [(cB, .byte), (cN, .byte)] s := hK
  have hP : va_P (dC, dI) vwCl [(bv, .inl (cB, 16, .inl f)), (bw, .inl (cN, 34, .inl (fun _ => 0)))] H := hP
  have hD : va_D A [(bv, .inl (cB, 16, .inl f)), (bw, .inl (cN, 34, .inl (fun _ => 0)))] := hD
  refine W.widen (k := 1) (n := 34) (Nat.le_of_ble_eq_true rfl) (Nat.le_of_ble_eq_true rfl) ?_
  obtain rfl : cB = cN := zz_ty hK 0 1 rfl rfl
  have hK := hK.sub (tys' := [(cB, .byte)]) [0] rfl
  have hP : va_P (dC, dI) vwCl [(bv, .inl (cB, 16, .inl f)), (bw, .inl (cB, 34, .inl (fun _ => 0)))] H := hP
  have hD : va_D A [(bv, .inl (cB, 16, .inl f)), (bw, .inl (cB, 34, .inl (fun _ => 0)))] := hD
  refine lv_astore_n hx hb d_AR_copyOf_17 rfl hl (by decide) rfl (fun ls hl => ?_)
  have hl : lv_has ls 3 [(2, .ref bw), (0, .ref bv), (1, .int 34)] := hl
  refine lv_aload_n hx hb d_AR_copyOf_18 rfl (lv_at hl 1 rfl) ?_
  refine lv_iconst (v := 0) hx hb d_AR_copyOf_19 (by decide) ?_
  refine lv_aload_n hx hb d_AR_copyOf_20 rfl (lv_at hl 0 rfl) ?_
  refine lv_iconst (v := 0) hx hb d_AR_copyOf_21 (by decide) ?_
  refine lv_aload_n hx hb d_AR_copyOf_22 rfl (lv_at hl 1 rfl) ?_
  refine va_alen (v := 16) hx hb hK hP 0 0 rfl rfl rfl d_AR_copyOf_23 ?_
  refine lv_iload_n hx hb d_AR_copyOf_24 rfl (lv_at hl 2 rfl) ?_
  refine va_mmin hx hb (hml.trans hl.1.symm) hown (htb _ m_229) (htb _ m_230) (htb _ m_13) (htb _ m_231) (Nat.le_of_ble_eq_true rfl) (Nat.le_of_ble_eq_true rfl) (Nat.le_of_ble_eq_true rfl) (Nat.le_of_ble_eq_true rfl) d_AR_copyOf_25 ?_
  refine W.eq (congrArg (fun z => F0 m 28 ls (.int z :: [.int 0, .ref bw, .int 0, .ref bv])) (by decide : (if (34 : Int32) < 16 then 34 else (16 : Int32)) = 16)) ?_
  refine va_copyi (ty := .byte) hx hb (hml.trans hl.1.symm) hown (htb _ m_232) (htb _ m_234) (htb _ m_233) (htb _ m_15) hK hP hD hS 0 1 0 0 rfl rfl rfl rfl rfl (by decide) (by decide) (by decide) (by decide) (by decide) (fun i _ => hf _) (Nat.le_of_ble_eq_true rfl) (by decide) d_AR_copyOf_28 (fun H locs hP hD hS => ?_)
  rw [(rfl : va_cpy f (fun _ => 0) (0 : Int32).toNatClampNeg (0 : Int32).toNatClampNeg (16 : Int32).toNatClampNeg = (va_cpy f (fun _ => 0) 0 0 16))] at hP hD
  have hP : va_P (dC, dI) vwCl [(bv, .inl (cB, 16, .inl f)), (bw, .inl (cB, 34, .inl (va_cpy f (fun _ => 0) 0 0 16)))] H := hP
  have hD : va_D A [(bv, .inl (cB, 16, .inl f)), (bw, .inl (cB, 34, .inl (va_cpy f (fun _ => 0) 0 0 16)))] := hD
  refine lv_aload_n hx hb d_AR_copyOf_31 rfl (lv_at hl 0 rfl) ?_
  have hP9 := hP.sub (ws' := [(bv, .inl (cB, 16, .inl f)), (bw, .inl (cB, 34, .inl (va_cpy f (fun _ => 0) 0 0 16)))]) [0, 1] rfl
  have hD9 := hD.sub (ws' := [(bv, .inl (cB, 16, .inl f)), (bw, .inl (cB, 34, .inl (va_cpy f (fun _ => 0) 0 0 16)))]) [0, 1] (by decide) rfl
  have hK9 := hK.sub (tys' := [(cB, .byte)]) [0] rfl
  refine W.widen (k := 1) (n := 34) (Nat.le_of_ble_eq_true rfl) (Nat.le_of_ble_eq_true rfl) ?_
  exact W.aret (v := .ref bw) hx hb hr (Or.inr ⟨_, rfl⟩) (Or.inr ⟨_, rfl⟩) (fun t ht hW => ⟨⟨(), bw, rfl, trivial, ⟨by rw [ht]; exact hP9, va_K.moved hW.alike hK9, hD9⟩⟩, hS.F ht⟩) hS.2.2 d_AR_copyOf_32
set_option maxHeartbeats 1000000 in
set_option maxRecDepth 100000 in
/-- Arrays.copyOf of 34 bytes to 70 -/
theorem k_AR_copyOf_34 (l : Launch) (dC : Nat → ClassId) (dI : Nat → Nat → Nat) (sz : Nat) (bv : Nat) (cB : ClassId) (f : Nat → Int32) (hf : sb_Fit f) : Met l y_AR_copyOf ws_AR_copyOf ({ frames := 1, cells := 1, slots := 70, locals := 40 }) (va_Pc [.ref bv, .int 70] (fun U => U.heap.size = sz ∧ va_P (dC, dI) vwCl [(bv, .inl (cB, 34, .inl f))] U.heap ∧ va_K (dC, dI) vwCl [(cB, .byte)] U ∧ va_D (fun _ => True) [(bv, .inl (cB, 34, .inl f))])) (va_Qr (fun (u : Unit) => True) (fun u ra t => va_P (dC, dI) vwCl [(bv, .inl (cB, 34, .inl f)), (ra, .inl (cB, 70, .inl (va_cpy f (fun _ => 0) 0 0 34)))] t.heap ∧ va_K (dC, dI) vwCl [(cB, .byte)] t ∧ va_D (va_A [(bv, .inl (cB, 34, .inl f))] sz) [(bv, .inl (cB, 34, .inl f)), (ra, .inl (cB, 70, .inl (va_cpy f (fun _ => 0) 0 0 34)))]) (va_A [(bv, .inl (cB, 34, .inl f))] sz)) 1 70 (va_A [(bv, .inl (cB, 34, .inl f))] sz) := by
  refine Met.ofW (cc := c_AR_copyOf) (maxL := 3) (ret := (some (.array .byte))) (by decide) rfl ?_
  intro p e s m args below meth c s₁ B hml hv
  obtain ⟨rfl, hsz, hP, hK, hD0⟩ := hv
  have hx := B.exec
  have hb := B.bytes
  have hr := B.returns
  have hts := atoms_spec (ws := ws_AR_copyOf) B.pre
  have htb := fun w (h : w ∈ TBL) => hts w (List.mem_cons_of_mem _ h)
  have hown : s.vm.findClass R_AR = some m.cls := findClass_of_methodNamed B.named
  have hlocks := B.notSynchronized
  subst hsz
  have hD := hD0.self (sz := s.heap.size)
  generalize hAe : va_A [(bv, .inl (cB, 34, .inl f))] s.heap.size = A at hD ⊢
  have hA : ∀ q : Nat, s.heap.size ≤ q → A q := fun q h => by rw [← hAe]; exact Or.inr h
  have hS : va_S A s.heap s.heap [] := va_S.rf
  have hP : va_P (dC, dI) vwCl [(bv, .inl (cB, 34, .inl f))] s.heap := hP
  have hl := lv_entry ([.ref bv, .int 70]) (n := 3) (Nat.le_of_ble_eq_true rfl)
  rw [lg_entry_eq]
  generalize (lg_sl ([.ref bv, .int 70]) ++ List.replicate (3 - (lg_sl ([.ref bv, .int 70])).length) Slot.unset).toArray = ls at hl ⊢
  have hl : lv_has ls 3 [(0, .ref bv), (1, .int 70)] := hl
  refine lv_iload_n hx hb d_AR_copyOf_0 rfl (lv_at hl 1 rfl) ?_
  refine lv_aload_n hx hb d_AR_copyOf_1 rfl (lv_at hl 0 rfl) ?_
  refine va_alen (v := 34) hx hb hK hP 0 0 rfl rfl rfl d_AR_copyOf_2 ?_
  refine lv_icmp_ne (tgt := 14) hx hb d_AR_copyOf_3 rfl (fun _ => ?_) (fun h9 => absurd h9 (by decide))
  refine lv_iload_n hx hb d_AR_copyOf_14 rfl (lv_at hl 1 rfl) ?_
  refine va_newa (atype := .byte) (ty := .byte) (N' := 70) (a0 := (70, .inl (fun _ => 0))) hx hb (htb _ m_70) rfl hK hP hD hS hA (fun _ => rfl) (by decide) (by decide) (by decide) (Nat.le_of_ble_eq_true rfl) (Nat.le_of_ble_eq_true rfl) d_AR_copyOf_15 (fun bw cN H hK hP hD hS => ?_)
  have hK : va_K (dC, dI) vwCl [(cB, .byte), (cN, .byte)] s := hK
  have hP : va_P (dC, dI) vwCl [(bv, .inl (cB, 34, .inl f)), (bw, .inl (cN, 70, .inl (fun _ => 0)))] H := hP
  have hD : va_D A [(bv, .inl (cB, 34, .inl f)), (bw, .inl (cN, 70, .inl (fun _ => 0)))] := hD
  refine W.widen (k := 1) (n := 70) (Nat.le_of_ble_eq_true rfl) (Nat.le_of_ble_eq_true rfl) ?_
  obtain rfl : cB = cN := zz_ty hK 0 1 rfl rfl
  have hK := hK.sub (tys' := [(cB, .byte)]) [0] rfl
  have hP : va_P (dC, dI) vwCl [(bv, .inl (cB, 34, .inl f)), (bw, .inl (cB, 70, .inl (fun _ => 0)))] H := hP
  have hD : va_D A [(bv, .inl (cB, 34, .inl f)), (bw, .inl (cB, 70, .inl (fun _ => 0)))] := hD
  refine lv_astore_n hx hb d_AR_copyOf_17 rfl hl (by decide) rfl (fun ls hl => ?_)
  have hl : lv_has ls 3 [(2, .ref bw), (0, .ref bv), (1, .int 70)] := hl
  refine lv_aload_n hx hb d_AR_copyOf_18 rfl (lv_at hl 1 rfl) ?_
  refine lv_iconst (v := 0) hx hb d_AR_copyOf_19 (by decide) ?_
  refine lv_aload_n hx hb d_AR_copyOf_20 rfl (lv_at hl 0 rfl) ?_
  refine lv_iconst (v := 0) hx hb d_AR_copyOf_21 (by decide) ?_
  refine lv_aload_n hx hb d_AR_copyOf_22 rfl (lv_at hl 1 rfl) ?_
  refine va_alen (v := 34) hx hb hK hP 0 0 rfl rfl rfl d_AR_copyOf_23 ?_
  refine lv_iload_n hx hb d_AR_copyOf_24 rfl (lv_at hl 2 rfl) ?_
  refine va_mmin hx hb (hml.trans hl.1.symm) hown (htb _ m_229) (htb _ m_230) (htb _ m_13) (htb _ m_231) (Nat.le_of_ble_eq_true rfl) (Nat.le_of_ble_eq_true rfl) (Nat.le_of_ble_eq_true rfl) (Nat.le_of_ble_eq_true rfl) d_AR_copyOf_25 ?_
  refine W.eq (congrArg (fun z => F0 m 28 ls (.int z :: [.int 0, .ref bw, .int 0, .ref bv])) (by decide : (if (70 : Int32) < 34 then 70 else (34 : Int32)) = 34)) ?_
  refine va_copyi (ty := .byte) hx hb (hml.trans hl.1.symm) hown (htb _ m_232) (htb _ m_234) (htb _ m_233) (htb _ m_15) hK hP hD hS 0 1 0 0 rfl rfl rfl rfl rfl (by decide) (by decide) (by decide) (by decide) (by decide) (fun i _ => hf _) (Nat.le_of_ble_eq_true rfl) (by decide) d_AR_copyOf_28 (fun H locs hP hD hS => ?_)
  rw [(rfl : va_cpy f (fun _ => 0) (0 : Int32).toNatClampNeg (0 : Int32).toNatClampNeg (34 : Int32).toNatClampNeg = (va_cpy f (fun _ => 0) 0 0 34))] at hP hD
  have hP : va_P (dC, dI) vwCl [(bv, .inl (cB, 34, .inl f)), (bw, .inl (cB, 70, .inl (va_cpy f (fun _ => 0) 0 0 34)))] H := hP
  have hD : va_D A [(bv, .inl (cB, 34, .inl f)), (bw, .inl (cB, 70, .inl (va_cpy f (fun _ => 0) 0 0 34)))] := hD
  refine lv_aload_n hx hb d_AR_copyOf_31 rfl (lv_at hl 0 rfl) ?_
  have hP9 := hP.sub (ws' := [(bv, .inl (cB, 34, .inl f)), (bw, .inl (cB, 70, .inl (va_cpy f (fun _ => 0) 0 0 34)))]) [0, 1] rfl
  have hD9 := hD.sub (ws' := [(bv, .inl (cB, 34, .inl f)), (bw, .inl (cB, 70, .inl (va_cpy f (fun _ => 0) 0 0 34)))]) [0, 1] (by decide) rfl
  have hK9 := hK.sub (tys' := [(cB, .byte)]) [0] rfl
  refine W.widen (k := 1) (n := 70) (Nat.le_of_ble_eq_true rfl) (Nat.le_of_ble_eq_true rfl) ?_
  exact W.aret (v := .ref bw) hx hb hr (Or.inr ⟨_, rfl⟩) (Or.inr ⟨_, rfl⟩) (fun t ht hW => ⟨⟨(), bw, rfl, trivial, ⟨by rw [ht]; exact hP9, va_K.moved hW.alike hK9, hD9⟩⟩, hS.F ht⟩) hS.2.2 d_AR_copyOf_32
set_option maxHeartbeats 1000000 in
set_option maxRecDepth 100000 in
/-- Arrays.copyOf of 70 bytes to 142 -/
theorem k_AR_copyOf_70 (l : Launch) (dC : Nat → ClassId) (dI : Nat → Nat → Nat) (sz : Nat) (bv : Nat) (cB : ClassId) (f : Nat → Int32) (hf : sb_Fit f) : Met l y_AR_copyOf ws_AR_copyOf ({ frames := 1, cells := 1, slots := 142, locals := 40 }) (va_Pc [.ref bv, .int 142] (fun U => U.heap.size = sz ∧ va_P (dC, dI) vwCl [(bv, .inl (cB, 70, .inl f))] U.heap ∧ va_K (dC, dI) vwCl [(cB, .byte)] U ∧ va_D (fun _ => True) [(bv, .inl (cB, 70, .inl f))])) (va_Qr (fun (u : Unit) => True) (fun u ra t => va_P (dC, dI) vwCl [(bv, .inl (cB, 70, .inl f)), (ra, .inl (cB, 142, .inl (va_cpy f (fun _ => 0) 0 0 70)))] t.heap ∧ va_K (dC, dI) vwCl [(cB, .byte)] t ∧ va_D (va_A [(bv, .inl (cB, 70, .inl f))] sz) [(bv, .inl (cB, 70, .inl f)), (ra, .inl (cB, 142, .inl (va_cpy f (fun _ => 0) 0 0 70)))]) (va_A [(bv, .inl (cB, 70, .inl f))] sz)) 1 142 (va_A [(bv, .inl (cB, 70, .inl f))] sz) := by
  refine Met.ofW (cc := c_AR_copyOf) (maxL := 3) (ret := (some (.array .byte))) (by decide) rfl ?_
  intro p e s m args below meth c s₁ B hml hv
  obtain ⟨rfl, hsz, hP, hK, hD0⟩ := hv
  have hx := B.exec
  have hb := B.bytes
  have hr := B.returns
  have hts := atoms_spec (ws := ws_AR_copyOf) B.pre
  have htb := fun w (h : w ∈ TBL) => hts w (List.mem_cons_of_mem _ h)
  have hown : s.vm.findClass R_AR = some m.cls := findClass_of_methodNamed B.named
  have hlocks := B.notSynchronized
  subst hsz
  have hD := hD0.self (sz := s.heap.size)
  generalize hAe : va_A [(bv, .inl (cB, 70, .inl f))] s.heap.size = A at hD ⊢
  have hA : ∀ q : Nat, s.heap.size ≤ q → A q := fun q h => by rw [← hAe]; exact Or.inr h
  have hS : va_S A s.heap s.heap [] := va_S.rf
  have hP : va_P (dC, dI) vwCl [(bv, .inl (cB, 70, .inl f))] s.heap := hP
  have hl := lv_entry ([.ref bv, .int 142]) (n := 3) (Nat.le_of_ble_eq_true rfl)
  rw [lg_entry_eq]
  generalize (lg_sl ([.ref bv, .int 142]) ++ List.replicate (3 - (lg_sl ([.ref bv, .int 142])).length) Slot.unset).toArray = ls at hl ⊢
  have hl : lv_has ls 3 [(0, .ref bv), (1, .int 142)] := hl
  refine lv_iload_n hx hb d_AR_copyOf_0 rfl (lv_at hl 1 rfl) ?_
  refine lv_aload_n hx hb d_AR_copyOf_1 rfl (lv_at hl 0 rfl) ?_
  refine va_alen (v := 70) hx hb hK hP 0 0 rfl rfl rfl d_AR_copyOf_2 ?_
  refine lv_icmp_ne (tgt := 14) hx hb d_AR_copyOf_3 rfl (fun _ => ?_) (fun h9 => absurd h9 (by decide))
  refine lv_iload_n hx hb d_AR_copyOf_14 rfl (lv_at hl 1 rfl) ?_
  refine va_newa (atype := .byte) (ty := .byte) (N' := 142) (a0 := (142, .inl (fun _ => 0))) hx hb (htb _ m_70) rfl hK hP hD hS hA (fun _ => rfl) (by decide) (by decide) (by decide) (Nat.le_of_ble_eq_true rfl) (Nat.le_of_ble_eq_true rfl) d_AR_copyOf_15 (fun bw cN H hK hP hD hS => ?_)
  have hK : va_K (dC, dI) vwCl [(cB, .byte), (cN, .byte)] s := hK
  have hP : va_P (dC, dI) vwCl [(bv, .inl (cB, 70, .inl f)), (bw, .inl (cN, 142, .inl (fun _ => 0)))] H := hP
  have hD : va_D A [(bv, .inl (cB, 70, .inl f)), (bw, .inl (cN, 142, .inl (fun _ => 0)))] := hD
  refine W.widen (k := 1) (n := 142) (Nat.le_of_ble_eq_true rfl) (Nat.le_of_ble_eq_true rfl) ?_
  obtain rfl : cB = cN := zz_ty hK 0 1 rfl rfl
  have hK := hK.sub (tys' := [(cB, .byte)]) [0] rfl
  have hP : va_P (dC, dI) vwCl [(bv, .inl (cB, 70, .inl f)), (bw, .inl (cB, 142, .inl (fun _ => 0)))] H := hP
  have hD : va_D A [(bv, .inl (cB, 70, .inl f)), (bw, .inl (cB, 142, .inl (fun _ => 0)))] := hD
  refine lv_astore_n hx hb d_AR_copyOf_17 rfl hl (by decide) rfl (fun ls hl => ?_)
  have hl : lv_has ls 3 [(2, .ref bw), (0, .ref bv), (1, .int 142)] := hl
  refine lv_aload_n hx hb d_AR_copyOf_18 rfl (lv_at hl 1 rfl) ?_
  refine lv_iconst (v := 0) hx hb d_AR_copyOf_19 (by decide) ?_
  refine lv_aload_n hx hb d_AR_copyOf_20 rfl (lv_at hl 0 rfl) ?_
  refine lv_iconst (v := 0) hx hb d_AR_copyOf_21 (by decide) ?_
  refine lv_aload_n hx hb d_AR_copyOf_22 rfl (lv_at hl 1 rfl) ?_
  refine va_alen (v := 70) hx hb hK hP 0 0 rfl rfl rfl d_AR_copyOf_23 ?_
  refine lv_iload_n hx hb d_AR_copyOf_24 rfl (lv_at hl 2 rfl) ?_
  refine va_mmin hx hb (hml.trans hl.1.symm) hown (htb _ m_229) (htb _ m_230) (htb _ m_13) (htb _ m_231) (Nat.le_of_ble_eq_true rfl) (Nat.le_of_ble_eq_true rfl) (Nat.le_of_ble_eq_true rfl) (Nat.le_of_ble_eq_true rfl) d_AR_copyOf_25 ?_
  refine W.eq (congrArg (fun z => F0 m 28 ls (.int z :: [.int 0, .ref bw, .int 0, .ref bv])) (by decide : (if (142 : Int32) < 70 then 142 else (70 : Int32)) = 70)) ?_
  refine va_copyi (ty := .byte) hx hb (hml.trans hl.1.symm) hown (htb _ m_232) (htb _ m_234) (htb _ m_233) (htb _ m_15) hK hP hD hS 0 1 0 0 rfl rfl rfl rfl rfl (by decide) (by decide) (by decide) (by decide) (by decide) (fun i _ => hf _) (Nat.le_of_ble_eq_true rfl) (by decide) d_AR_copyOf_28 (fun H locs hP hD hS => ?_)
  rw [(rfl : va_cpy f (fun _ => 0) (0 : Int32).toNatClampNeg (0 : Int32).toNatClampNeg (70 : Int32).toNatClampNeg = (va_cpy f (fun _ => 0) 0 0 70))] at hP hD
  have hP : va_P (dC, dI) vwCl [(bv, .inl (cB, 70, .inl f)), (bw, .inl (cB, 142, .inl (va_cpy f (fun _ => 0) 0 0 70)))] H := hP
  have hD : va_D A [(bv, .inl (cB, 70, .inl f)), (bw, .inl (cB, 142, .inl (va_cpy f (fun _ => 0) 0 0 70)))] := hD
  refine lv_aload_n hx hb d_AR_copyOf_31 rfl (lv_at hl 0 rfl) ?_
  have hP9 := hP.sub (ws' := [(bv, .inl (cB, 70, .inl f)), (bw, .inl (cB, 142, .inl (va_cpy f (fun _ => 0) 0 0 70)))]) [0, 1] rfl
  have hD9 := hD.sub (ws' := [(bv, .inl (cB, 70, .inl f)), (bw, .inl (cB, 142, .inl (va_cpy f (fun _ => 0) 0 0 70)))]) [0, 1] (by decide) rfl
  have hK9 := hK.sub (tys' := [(cB, .byte)]) [0] rfl
  refine W.widen (k := 1) (n := 142) (Nat.le_of_ble_eq_true rfl) (Nat.le_of_ble_eq_true rfl) ?_
  exact W.aret (v := .ref bw) hx hb hr (Or.inr ⟨_, rfl⟩) (Or.inr ⟨_, rfl⟩) (fun t ht hW => ⟨⟨(), bw, rfl, trivial, ⟨by rw [ht]; exact hP9, va_K.moved hW.alike hK9, hD9⟩⟩, hS.F ht⟩) hS.2.2 d_AR_copyOf_32
set_option maxHeartbeats 1000000 in
set_option maxRecDepth 100000 in
/-- Arrays.copyOf of 142 bytes to 286 -/
theorem k_AR_copyOf_142 (l : Launch) (dC : Nat → ClassId) (dI : Nat → Nat → Nat) (sz : Nat) (bv : Nat) (cB : ClassId) (f : Nat → Int32) (hf : sb_Fit f) : Met l y_AR_copyOf ws_AR_copyOf ({ frames := 1, cells := 1, slots := 286, locals := 40 }) (va_Pc [.ref bv, .int 286] (fun U => U.heap.size = sz ∧ va_P (dC, dI) vwCl [(bv, .inl (cB, 142, .inl f))] U.heap ∧ va_K (dC, dI) vwCl [(cB, .byte)] U ∧ va_D (fun _ => True) [(bv, .inl (cB, 142, .inl f))])) (va_Qr (fun (u : Unit) => True) (fun u ra t => va_P (dC, dI) vwCl [(bv, .inl (cB, 142, .inl f)), (ra, .inl (cB, 286, .inl (va_cpy f (fun _ => 0) 0 0 142)))] t.heap ∧ va_K (dC, dI) vwCl [(cB, .byte)] t ∧ va_D (va_A [(bv, .inl (cB, 142, .inl f))] sz) [(bv, .inl (cB, 142, .inl f)), (ra, .inl (cB, 286, .inl (va_cpy f (fun _ => 0) 0 0 142)))]) (va_A [(bv, .inl (cB, 142, .inl f))] sz)) 1 286 (va_A [(bv, .inl (cB, 142, .inl f))] sz) := by
  refine Met.ofW (cc := c_AR_copyOf) (maxL := 3) (ret := (some (.array .byte))) (by decide) rfl ?_
  intro p e s m args below meth c s₁ B hml hv
  obtain ⟨rfl, hsz, hP, hK, hD0⟩ := hv
  have hx := B.exec
  have hb := B.bytes
  have hr := B.returns
  have hts := atoms_spec (ws := ws_AR_copyOf) B.pre
  have htb := fun w (h : w ∈ TBL) => hts w (List.mem_cons_of_mem _ h)
  have hown : s.vm.findClass R_AR = some m.cls := findClass_of_methodNamed B.named
  have hlocks := B.notSynchronized
  subst hsz
  have hD := hD0.self (sz := s.heap.size)
  generalize hAe : va_A [(bv, .inl (cB, 142, .inl f))] s.heap.size = A at hD ⊢
  have hA : ∀ q : Nat, s.heap.size ≤ q → A q := fun q h => by rw [← hAe]; exact Or.inr h
  have hS : va_S A s.heap s.heap [] := va_S.rf
  have hP : va_P (dC, dI) vwCl [(bv, .inl (cB, 142, .inl f))] s.heap := hP
  have hl := lv_entry ([.ref bv, .int 286]) (n := 3) (Nat.le_of_ble_eq_true rfl)
  rw [lg_entry_eq]
  generalize (lg_sl ([.ref bv, .int 286]) ++ List.replicate (3 - (lg_sl ([.ref bv, .int 286])).length) Slot.unset).toArray = ls at hl ⊢
  have hl : lv_has ls 3 [(0, .ref bv), (1, .int 286)] := hl
  refine lv_iload_n hx hb d_AR_copyOf_0 rfl (lv_at hl 1 rfl) ?_
  refine lv_aload_n hx hb d_AR_copyOf_1 rfl (lv_at hl 0 rfl) ?_
  refine va_alen (v := 142) hx hb hK hP 0 0 rfl rfl rfl d_AR_copyOf_2 ?_
  refine lv_icmp_ne (tgt := 14) hx hb d_AR_copyOf_3 rfl (fun _ => ?_) (fun h9 => absurd h9 (by decide))
  refine lv_iload_n hx hb d_AR_copyOf_14 rfl (lv_at hl 1 rfl) ?_
  refine va_newa (atype := .byte) (ty := .byte) (N' := 286) (a0 := (286, .inl (fun _ => 0))) hx hb (htb _ m_70) rfl hK hP hD hS hA (fun _ => rfl) (by decide) (by decide) (by decide) (Nat.le_of_ble_eq_true rfl) (Nat.le_of_ble_eq_true rfl) d_AR_copyOf_15 (fun bw cN H hK hP hD hS => ?_)
  have hK : va_K (dC, dI) vwCl [(cB, .byte), (cN, .byte)] s := hK
  have hP : va_P (dC, dI) vwCl [(bv, .inl (cB, 142, .inl f)), (bw, .inl (cN, 286, .inl (fun _ => 0)))] H := hP
  have hD : va_D A [(bv, .inl (cB, 142, .inl f)), (bw, .inl (cN, 286, .inl (fun _ => 0)))] := hD
  refine W.widen (k := 1) (n := 286) (Nat.le_of_ble_eq_true rfl) (Nat.le_of_ble_eq_true rfl) ?_
  obtain rfl : cB = cN := zz_ty hK 0 1 rfl rfl
  have hK := hK.sub (tys' := [(cB, .byte)]) [0] rfl
  have hP : va_P (dC, dI) vwCl [(bv, .inl (cB, 142, .inl f)), (bw, .inl (cB, 286, .inl (fun _ => 0)))] H := hP
  have hD : va_D A [(bv, .inl (cB, 142, .inl f)), (bw, .inl (cB, 286, .inl (fun _ => 0)))] := hD
  refine lv_astore_n hx hb d_AR_copyOf_17 rfl hl (by decide) rfl (fun ls hl => ?_)
  have hl : lv_has ls 3 [(2, .ref bw), (0, .ref bv), (1, .int 286)] := hl
  refine lv_aload_n hx hb d_AR_copyOf_18 rfl (lv_at hl 1 rfl) ?_
  refine lv_iconst (v := 0) hx hb d_AR_copyOf_19 (by decide) ?_
  refine lv_aload_n hx hb d_AR_copyOf_20 rfl (lv_at hl 0 rfl) ?_
  refine lv_iconst (v := 0) hx hb d_AR_copyOf_21 (by decide) ?_
  refine lv_aload_n hx hb d_AR_copyOf_22 rfl (lv_at hl 1 rfl) ?_
  refine va_alen (v := 142) hx hb hK hP 0 0 rfl rfl rfl d_AR_copyOf_23 ?_
  refine lv_iload_n hx hb d_AR_copyOf_24 rfl (lv_at hl 2 rfl) ?_
  refine va_mmin hx hb (hml.trans hl.1.symm) hown (htb _ m_229) (htb _ m_230) (htb _ m_13) (htb _ m_231) (Nat.le_of_ble_eq_true rfl) (Nat.le_of_ble_eq_true rfl) (Nat.le_of_ble_eq_true rfl) (Nat.le_of_ble_eq_true rfl) d_AR_copyOf_25 ?_
  refine W.eq (congrArg (fun z => F0 m 28 ls (.int z :: [.int 0, .ref bw, .int 0, .ref bv])) (by decide : (if (286 : Int32) < 142 then 286 else (142 : Int32)) = 142)) ?_
  refine va_copyi (ty := .byte) hx hb (hml.trans hl.1.symm) hown (htb _ m_232) (htb _ m_234) (htb _ m_233) (htb _ m_15) hK hP hD hS 0 1 0 0 rfl rfl rfl rfl rfl (by decide) (by decide) (by decide) (by decide) (by decide) (fun i _ => hf _) (Nat.le_of_ble_eq_true rfl) (by decide) d_AR_copyOf_28 (fun H locs hP hD hS => ?_)
  rw [(rfl : va_cpy f (fun _ => 0) (0 : Int32).toNatClampNeg (0 : Int32).toNatClampNeg (142 : Int32).toNatClampNeg = (va_cpy f (fun _ => 0) 0 0 142))] at hP hD
  have hP : va_P (dC, dI) vwCl [(bv, .inl (cB, 142, .inl f)), (bw, .inl (cB, 286, .inl (va_cpy f (fun _ => 0) 0 0 142)))] H := hP
  have hD : va_D A [(bv, .inl (cB, 142, .inl f)), (bw, .inl (cB, 286, .inl (va_cpy f (fun _ => 0) 0 0 142)))] := hD
  refine lv_aload_n hx hb d_AR_copyOf_31 rfl (lv_at hl 0 rfl) ?_
  have hP9 := hP.sub (ws' := [(bv, .inl (cB, 142, .inl f)), (bw, .inl (cB, 286, .inl (va_cpy f (fun _ => 0) 0 0 142)))]) [0, 1] rfl
  have hD9 := hD.sub (ws' := [(bv, .inl (cB, 142, .inl f)), (bw, .inl (cB, 286, .inl (va_cpy f (fun _ => 0) 0 0 142)))]) [0, 1] (by decide) rfl
  have hK9 := hK.sub (tys' := [(cB, .byte)]) [0] rfl
  refine W.widen (k := 1) (n := 286) (Nat.le_of_ble_eq_true rfl) (Nat.le_of_ble_eq_true rfl) ?_
  exact W.aret (v := .ref bw) hx hb hr (Or.inr ⟨_, rfl⟩) (Or.inr ⟨_, rfl⟩) (fun t ht hW => ⟨⟨(), bw, rfl, trivial, ⟨by rw [ht]; exact hP9, va_K.moved hW.alike hK9, hD9⟩⟩, hS.F ht⟩) hS.2.2 d_AR_copyOf_32
set_option maxHeartbeats 1000000 in
set_option maxRecDepth 100000 in
/-- ensureCapacityInternal(17): from 16 to 34 bytes -/
theorem k_AB_grow_16 (l : Launch) (dC : Nat → ClassId) (dI : Nat → Nat → Nat) (sz : Nat) (x : Nat) (bv : Nat) (ml : Int32) (n : Nat) (cB : ClassId) (f : Nat → Int32) (hf : sb_Fit f) : Met l y_AB_ensureCapacityInternal ws_AB_ensureCapacityInternal ({ frames := 3, cells := 1, slots := 34, locals := 62 }) (va_Pc [.ref x, .int 17] (fun U => U.heap.size = sz ∧ va_P (dC, dI) vwCl [(x, .inr (13, [.ref bv, .int 0, .int ml, .int (nI n)])), (bv, .inl (cB, 16, .inl f))] U.heap ∧ va_K (dC, dI) vwCl [(cB, .byte)] U ∧ va_D (fun _ => True) [(x, .inr (13, [.ref bv, .int 0, .int ml, .int (nI n)])), (bv, .inl (cB, 16, .inl f))])) (va_Qv (fun (u : Unit) => True) (fun u t => ∃ (bw : Nat), va_P (dC, dI) vwCl [(x, .inr (13, [.ref bw, .int 0, .int ml, .int (nI n)])), (bw, .inl (cB, 34, .inl (va_cpy f (fun _ => 0) 0 0 16)))] t.heap ∧ va_K (dC, dI) vwCl [(cB, .byte)] t ∧ va_D (va_A [(x, .inr (13, [.ref bv, .int 0, .int ml, .int (nI n)])), (bv, .inl (cB, 16, .inl f))] sz) [(x, .inr (13, [.ref bw, .int 0, .int ml, .int (nI n)])), (bw, .inl (cB, 34, .inl (va_cpy f (fun _ => 0) 0 0 16)))]) (va_A [(x, .inr (13, [.ref bv, .int 0, .int ml, .int (nI n)])), (bv, .inl (cB, 16, .inl f))] sz)) 1 34 (va_A [(x, .inr (13, [.ref bv, .int 0, .int ml, .int (nI n)])), (bv, .inl (cB, 16, .inl f))] sz) := by
  refine Met.ofW (cc := c_AB_ensureCapacityInternal) (maxL := 3) (ret := none) (by decide) rfl ?_
  intro p e s m args below meth c s₁ B hml hv
  obtain ⟨rfl, hsz, hP, hK, hD0⟩ := hv
  have hx := B.exec
  have hb := B.bytes
  have hr := B.returns
  have hts := atoms_spec (ws := ws_AB_ensureCapacityInternal) B.pre
  have htb := fun w (h : w ∈ TBL) => hts w (List.mem_cons_of_mem _ h)
  have hown : s.vm.findClass R_AB = some m.cls := findClass_of_methodNamed B.named
  have hlocks := B.notSynchronized
  subst hsz
  have hD := hD0.self (sz := s.heap.size)
  generalize hAe : va_A [(x, .inr (13, [.ref bv, .int 0, .int ml, .int (nI n)])), (bv, .inl (cB, 16, .inl f))] s.heap.size = A at hD ⊢
  have hA : ∀ q : Nat, s.heap.size ≤ q → A q := fun q h => by rw [← hAe]; exact Or.inr h
  have hS : va_S A s.heap s.heap [] := va_S.rf
  have hP : va_P (dC, dI) vwCl [(x, .inr (13, [.ref bv, .int 0, .int ml, .int (nI n)])), (bv, .inl (cB, 16, .inl f))] s.heap := hP
  have hl := lv_entry ([.ref x, .int 17]) (n := 3) (Nat.le_of_ble_eq_true rfl)
  rw [lg_entry_eq]
  generalize (lg_sl ([.ref x, .int 17]) ++ List.replicate (3 - (lg_sl ([.ref x, .int 17])).length) Slot.unset).toArray = ls at hl ⊢
  have hl : lv_has ls 3 [(0, .ref x), (1, .int 17)] := hl
  refine lv_aload_n hx hb d_AB_ensureCapacityInternal_0 rfl (lv_at hl 0 rfl) ?_
  refine va_get (D := (dC, dI)) (ci := 13) (v := .ref bv) (C := R_SB) (T := T_SB) (N := 4) hx hb htb in_SB hown hK hP 0 rfl rfl 0 (by decide) (htb _ m_55) (fun _ h9 => h9) rfl d_AB_ensureCapacityInternal_1 ?_
  refine va_alen (v := 16) hx hb hK hP 1 0 rfl rfl rfl d_AB_ensureCapacityInternal_4 ?_
  refine lv_aload_n hx hb d_AB_ensureCapacityInternal_5 rfl (lv_at hl 0 rfl) ?_
  refine va_get (D := (dC, dI)) (ci := 13) (v := .int 0) (C := R_SB) (T := T_SB) (N := 4) hx hb htb in_SB hown hK hP 0 rfl rfl 1 (by decide) (htb _ m_56) (fun _ h9 => h9) rfl d_AB_ensureCapacityInternal_6 ?_
  refine lv_ishr hx hb d_AB_ensureCapacityInternal_9 ?_
  refine W.eq (congrArg (fun z => F0 m 10 ls (.int z :: [])) (by decide : ((16 : Int32) >>> ((0 : Int32) &&& 31)) = 16)) ?_
  refine lv_istore_n hx hb d_AB_ensureCapacityInternal_10 rfl hl (by decide) rfl (fun ls hl => ?_)
  have hl : lv_has ls 3 [(2, .int 16), (0, .ref x), (1, .int 17)] := hl
  refine lv_iload_n hx hb d_AB_ensureCapacityInternal_11 rfl (lv_at hl 2 rfl) ?_
  refine lv_iload_n hx hb d_AB_ensureCapacityInternal_12 rfl (lv_at hl 0 rfl) ?_
  refine lv_isub hx hb d_AB_ensureCapacityInternal_13 ?_
  refine W.eq (congrArg (fun z => F0 m 14 ls (.int z :: [])) (by decide : ((17 : Int32) - 16) = 1)) ?_
  refine lv_if_le (tgt := 38) hx hb d_AB_ensureCapacityInternal_14 rfl (fun h9 => absurd h9 (by decide)) (fun _ => ?_)
  refine lv_aload_n hx hb d_AB_ensureCapacityInternal_17 rfl (lv_at hl 1 rfl) ?_
  refine lv_aload_n hx hb d_AB_ensureCapacityInternal_18 rfl (lv_at hl 1 rfl) ?_
  refine va_get (D := (dC, dI)) (ci := 13) (v := .ref bv) (C := R_SB) (T := T_SB) (N := 4) hx hb htb in_SB hown hK hP 0 rfl rfl 0 (by decide) (htb _ m_55) (fun _ h9 => h9) rfl d_AB_ensureCapacityInternal_19 ?_
  refine lv_aload_n hx hb d_AB_ensureCapacityInternal_22 rfl (lv_at hl 1 rfl) ?_
  refine lv_iload_n hx hb d_AB_ensureCapacityInternal_23 rfl (lv_at hl 2 rfl) ?_
  have hPc : va_P (dC, dI) vwCl [(x, .inr (13, [.ref bv, .int 0, .int ml, .int (nI n)])), (bv, .inl (cB, 16, .inl f))] _ := hP.sub (ws' := [(x, .inr (13, [.ref bv, .int 0, .int ml, .int (nI n)])), (bv, .inl (cB, 16, .inl f))]) [0, 1] rfl
  have hKc := hK.sub (tys' := [(cB, .byte)]) [0] rfl
  refine vp_callSi (va_Run.run (va_runU (As := [.int 17]) (rest := [.ref bv, .ref x]) ⟨hx, hb, hml, hown, htb⟩ (q_AB_newCapacity_16 l dC dI x bv ml n cB f ) (va_cwU 1 htb (g_U (fun _ h => h) m_207 m_204 m_1601 m_1714 m_206 m_2) rfl rfl rfl rfl (by decide +kernel) ⟨Nat.le_of_ble_eq_true rfl, Nat.le_of_ble_eq_true rfl⟩) ⟨fun a U g mk q => by obtain ⟨q0, qP, qK⟩ := q; exact ⟨q0, qP, va_K.moved (u := U) (U := U.calling g mk a) (Vm.Alike.refl U.vm) qK⟩, va_recv hKc hPc (ci := 13) rfl (q0 := 0) rfl, fun U hU hW => ⟨rfl, by rw [hU]; exact hPc, va_K.moved hW.alike hKc⟩⟩ rfl rfl hl.1 rfl (lv_room (Nat.le_of_ble_eq_true rfl)) d_AB_ensureCapacityInternal_24 ⟨Nat.le_of_ble_eq_true rfl, Nat.le_of_ble_eq_true rfl⟩)) (fun r1 hw2 => ?_)
  have hw2 : r1 = 34 := hw2
  obtain rfl := hw2
  refine lv_aload_n hx hb d_AB_ensureCapacityInternal_27 rfl (lv_at hl 1 rfl) ?_
  refine va_get (D := (dC, dI)) (ci := 13) (v := .int 0) (C := R_SB) (T := T_SB) (N := 4) hx hb htb in_SB hown hK hP 0 rfl rfl 1 (by decide) (htb _ m_56) (fun _ h9 => h9) rfl d_AB_ensureCapacityInternal_28 ?_
  refine lv_ishl hx hb d_AB_ensureCapacityInternal_31 ?_
  refine W.eq (congrArg (fun z => F0 m 32 ls (.int z :: [.ref bv, .ref x])) (by decide : ((34 : Int32) <<< ((0 : Int32) &&& 31)) = 34)) ?_
  have hPc := hP.sub (ws' := [(bv, .inl (cB, 16, .inl f))]) [1] rfl
  have hDc := hD.sub (ws' := [(bv, .inl (cB, 16, .inl f))]) [1] (by decide) rfl
  have hFc := va_free (wc := [(bv, .inl (cB, 16, .inl f))]) hD hS hA [1] rfl
  have hKc := hK.sub (tys' := [(cB, .byte)]) [0] rfl
  refine va_callr (va_runS (As := [.ref bv, .int 34]) (rest := [.ref x]) ⟨hx, hb, hml, hown, htb⟩ (k_AR_copyOf_16 l dC dI _ bv cB f hf) (va_cwS 2 htb (g_S (fun _ h => h) m_221 m_219 m_220 m_14) rfl rfl rfl (by decide +kernel) ⟨Nat.le_of_ble_eq_true rfl, Nat.le_of_ble_eq_true rfl⟩) ⟨fun a U g mk q => by obtain ⟨q0, q1, qP, qK, qD⟩ := q; exact ⟨q0, q1, qP, va_K.moved (u := U) (U := U.calling g mk a) (Vm.Alike.refl U.vm) qK, qD⟩, fun U hU hW => ⟨rfl, by rw [hU], by rw [hU]; exact hPc, va_K.moved hW.alike hKc, hDc.weaken (fun _ _ _ _ => trivial)⟩⟩ rfl rfl hl.1 rfl (lv_room (Nat.le_of_ble_eq_true rfl)) d_AB_ensureCapacityInternal_32 ⟨Nat.le_of_ble_eq_true rfl, Nat.le_of_ble_eq_true rfl⟩) hS (fun q _ h => hFc q h) hFc (fun u3 ra6 t H1 locs ht hvm hw5 hB hz1 hk1 hS => ?_)
  obtain ⟨hP1, hK1, hD1⟩ := hB
  rw [ht] at hP1
  have hK1 := va_K.moved hvm.symm hK1
  have hw5 : True := hw5
  obtain ⟨hP, hD⟩ := va_join (wr := [(x, .inr (13, [.ref bv, .int 0, .int ml, .int (nI n)]))]) (w1 := [(bv, .inl (cB, 16, .inl f)), (ra6, .inl (cB, 34, .inl (va_cpy f (fun _ => 0) 0 0 16)))]) hP hD [1] [0] rfl rfl (by decide) (by decide) hk1 hFc hP1 hD1
  have hK := (hK.sub (tys' := []) [] rfl).app hK1
  generalize H1 = H at hP hS ⊢
  have hP : va_P (dC, dI) vwCl [(x, .inr (13, [.ref bv, .int 0, .int ml, .int (nI n)])), (bv, .inl (cB, 16, .inl f)), (ra6, .inl (cB, 34, .inl (va_cpy f (fun _ => 0) 0 0 16)))] H := hP
  have hD : va_D A [(x, .inr (13, [.ref bv, .int 0, .int ml, .int (nI n)])), (bv, .inl (cB, 16, .inl f)), (ra6, .inl (cB, 34, .inl (va_cpy f (fun _ => 0) 0 0 16)))] := hD
  have hK : va_K (dC, dI) vwCl [(cB, .byte)] s := hK
  refine W.widen (k := 1) (n := 34) (Nat.le_of_ble_eq_true rfl) (Nat.le_of_ble_eq_true rfl) ?_
  refine va_put (D := (dC, dI)) (ci := 13) (v := .ref ra6) (ty := (.array .byte)) (C := R_SB) (T := T_SB) (N := 4) hx hb htb in_SB ty_SB ty_SB_ok nm_SB hown hK hP hD hS 0 rfl rfl 0 (by decide) (htb _ m_55) (fun _ h9 => h9) rfl (by decide +kernel) rfl rfl (Nat.le_of_ble_eq_true rfl) d_AB_ensureCapacityInternal_35 (fun H locs hP hD hS => ?_)
  have hP : va_P (dC, dI) vwCl [(x, .inr (13, [.ref ra6, .int 0, .int ml, .int (nI n)])), (bv, .inl (cB, 16, .inl f)), (ra6, .inl (cB, 34, .inl (va_cpy f (fun _ => 0) 0 0 16)))] H := hP
  have hD : va_D A [(x, .inr (13, [.ref ra6, .int 0, .int ml, .int (nI n)])), (bv, .inl (cB, 16, .inl f)), (ra6, .inl (cB, 34, .inl (va_cpy f (fun _ => 0) 0 0 16)))] := hD
  have hP9 := hP.sub (ws' := [(x, .inr (13, [.ref ra6, .int 0, .int ml, .int (nI n)])), (ra6, .inl (cB, 34, .inl (va_cpy f (fun _ => 0) 0 0 16)))]) [0, 2] rfl
  have hD9 := hD.sub (ws' := [(x, .inr (13, [.ref ra6, .int 0, .int ml, .int (nI n)])), (ra6, .inl (cB, 34, .inl (va_cpy f (fun _ => 0) 0 0 16)))]) [0, 2] (by decide) rfl
  have hK9 := hK.sub (tys' := [(cB, .byte)]) [0] rfl
  refine W.widen (k := 1) (n := 34) (Nat.le_of_ble_eq_true rfl) (Nat.le_of_ble_eq_true rfl) ?_
  exact W.vret hx hb hr (fun t ht hW => ⟨⟨(), rfl, trivial, ⟨ra6, by rw [ht]; exact hP9, va_K.moved hW.alike hK9, hD9⟩⟩, hS.F ht⟩) hS.2.2 d_AB_ensureCapacityInternal_38
set_option maxHeartbeats 1000000 in
set_option maxRecDepth 100000 in
/-- ensureCapacityInternal(35): from 34 to 70 bytes -/
theorem k_AB_grow_34 (l : Launch) (dC : Nat → ClassId) (dI : Nat → Nat → Nat) (sz : Nat) (x : Nat) (bv : Nat) (ml : Int32) (n : Nat) (cB : ClassId) (f : Nat → Int32) (hf : sb_Fit f) : Met l y_AB_ensureCapacityInternal ws_AB_ensureCapacityInternal ({ frames := 3, cells := 1, slots := 70, locals := 62 }) (va_Pc [.ref x, .int 35] (fun U => U.heap.size = sz ∧ va_P (dC, dI) vwCl [(x, .inr (13, [.ref bv, .int 0, .int ml, .int (nI n)])), (bv, .inl (cB, 34, .inl f))] U.heap ∧ va_K (dC, dI) vwCl [(cB, .byte)] U ∧ va_D (fun _ => True) [(x, .inr (13, [.ref bv, .int 0, .int ml, .int (nI n)])), (bv, .inl (cB, 34, .inl f))])) (va_Qv (fun (u : Unit) => True) (fun u t => ∃ (bw : Nat), va_P (dC, dI) vwCl [(x, .inr (13, [.ref bw, .int 0, .int ml, .int (nI n)])), (bw, .inl (cB, 70, .inl (va_cpy f (fun _ => 0) 0 0 34)))] t.heap ∧ va_K (dC, dI) vwCl [(cB, .byte)] t ∧ va_D (va_A [(x, .inr (13, [.ref bv, .int 0, .int ml, .int (nI n)])), (bv, .inl (cB, 34, .inl f))] sz) [(x, .inr (13, [.ref bw, .int 0, .int ml, .int (nI n)])), (bw, .inl (cB, 70, .inl (va_cpy f (fun _ => 0) 0 0 34)))]) (va_A [(x, .inr (13, [.ref bv, .int 0, .int ml, .int (nI n)])), (bv, .inl (cB, 34, .inl f))] sz)) 1 70 (va_A [(x, .inr (13, [.ref bv, .int 0, .int ml, .int (nI n)])), (bv, .inl (cB, 34, .inl f))] sz) := by
  refine Met.ofW (cc := c_AB_ensureCapacityInternal) (maxL := 3) (ret := none) (by decide) rfl ?_
  intro p e s m args below meth c s₁ B hml hv
  obtain ⟨rfl, hsz, hP, hK, hD0⟩ := hv
  have hx := B.exec
  have hb := B.bytes
  have hr := B.returns
  have hts := atoms_spec (ws := ws_AB_ensureCapacityInternal) B.pre
  have htb := fun w (h : w ∈ TBL) => hts w (List.mem_cons_of_mem _ h)
  have hown : s.vm.findClass R_AB = some m.cls := findClass_of_methodNamed B.named
  have hlocks := B.notSynchronized
  subst hsz
  have hD := hD0.self (sz := s.heap.size)
  generalize hAe : va_A [(x, .inr (13, [.ref bv, .int 0, .int ml, .int (nI n)])), (bv, .inl (cB, 34, .inl f))] s.heap.size = A at hD ⊢
  have hA : ∀ q : Nat, s.heap.size ≤ q → A q := fun q h => by rw [← hAe]; exact Or.inr h
  have hS : va_S A s.heap s.heap [] := va_S.rf
  have hP : va_P (dC, dI) vwCl [(x, .inr (13, [.ref bv, .int 0, .int ml, .int (nI n)])), (bv, .inl (cB, 34, .inl f))] s.heap := hP
  have hl := lv_entry ([.ref x, .int 35]) (n := 3) (Nat.le_of_ble_eq_true rfl)
  rw [lg_entry_eq]
  generalize (lg_sl ([.ref x, .int 35]) ++ List.replicate (3 - (lg_sl ([.ref x, .int 35])).length) Slot.unset).toArray = ls at hl ⊢
  have hl : lv_has ls 3 [(0, .ref x), (1, .int 35)] := hl
  refine lv_aload_n hx hb d_AB_ensureCapacityInternal_0 rfl (lv_at hl 0 rfl) ?_
  refine va_get (D := (dC, dI)) (ci := 13) (v := .ref bv) (C := R_SB) (T := T_SB) (N := 4) hx hb htb in_SB hown hK hP 0 rfl rfl 0 (by decide) (htb _ m_55) (fun _ h9 => h9) rfl d_AB_ensureCapacityInternal_1 ?_
  refine va_alen (v := 34) hx hb hK hP 1 0 rfl rfl rfl d_AB_ensureCapacityInternal_4 ?_
  refine lv_aload_n hx hb d_AB_ensureCapacityInternal_5 rfl (lv_at hl 0 rfl) ?_
  refine va_get (D := (dC, dI)) (ci := 13) (v := .int 0) (C := R_SB) (T := T_SB) (N := 4) hx hb htb in_SB hown hK hP 0 rfl rfl 1 (by decide) (htb _ m_56) (fun _ h9 => h9) rfl d_AB_ensureCapacityInternal_6 ?_
  refine lv_ishr hx hb d_AB_ensureCapacityInternal_9 ?_
  refine W.eq (congrArg (fun z => F0 m 10 ls (.int z :: [])) (by decide : ((34 : Int32) >>> ((0 : Int32) &&& 31)) = 34)) ?_
  refine lv_istore_n hx hb d_AB_ensureCapacityInternal_10 rfl hl (by decide) rfl (fun ls hl => ?_)
  have hl : lv_has ls 3 [(2, .int 34), (0, .ref x), (1, .int 35)] := hl
  refine lv_iload_n hx hb d_AB_ensureCapacityInternal_11 rfl (lv_at hl 2 rfl) ?_
  refine lv_iload_n hx hb d_AB_ensureCapacityInternal_12 rfl (lv_at hl 0 rfl) ?_
  refine lv_isub hx hb d_AB_ensureCapacityInternal_13 ?_
  refine W.eq (congrArg (fun z => F0 m 14 ls (.int z :: [])) (by decide : ((35 : Int32) - 34) = 1)) ?_
  refine lv_if_le (tgt := 38) hx hb d_AB_ensureCapacityInternal_14 rfl (fun h9 => absurd h9 (by decide)) (fun _ => ?_)
  refine lv_aload_n hx hb d_AB_ensureCapacityInternal_17 rfl (lv_at hl 1 rfl) ?_
  refine lv_aload_n hx hb d_AB_ensureCapacityInternal_18 rfl (lv_at hl 1 rfl) ?_
  refine va_get (D := (dC, dI)) (ci := 13) (v := .ref bv) (C := R_SB) (T := T_SB) (N := 4) hx hb htb in_SB hown hK hP 0 rfl rfl 0 (by decide) (htb _ m_55) (fun _ h9 => h9) rfl d_AB_ensureCapacityInternal_19 ?_
  refine lv_aload_n hx hb d_AB_ensureCapacityInternal_22 rfl (lv_at hl 1 rfl) ?_
  refine lv_iload_n hx hb d_AB_ensureCapacityInternal_23 rfl (lv_at hl 2 rfl) ?_
  have hPc : va_P (dC, dI) vwCl [(x, .inr (13, [.ref bv, .int 0, .int ml, .int (nI n)])), (bv, .inl (cB, 34, .inl f))] _ := hP.sub (ws' := [(x, .inr (13, [.ref bv, .int 0, .int ml, .int (nI n)])), (bv, .inl (cB, 34, .inl f))]) [0, 1] rfl
  have hKc := hK.sub (tys' := [(cB, .byte)]) [0] rfl
  refine vp_callSi (va_Run.run (va_runU (As := [.int 35]) (rest := [.ref bv, .ref x]) ⟨hx, hb, hml, hown, htb⟩ (q_AB_newCapacity_34 l dC dI x bv ml n cB f ) (va_cwU 1 htb (g_U (fun _ h => h) m_207 m_204 m_1601 m_1714 m_206 m_2) rfl rfl rfl rfl (by decide +kernel) ⟨Nat.le_of_ble_eq_true rfl, Nat.le_of_ble_eq_true rfl⟩) ⟨fun a U g mk q => by obtain ⟨q0, qP, qK⟩ := q; exact ⟨q0, qP, va_K.moved (u := U) (U := U.calling g mk a) (Vm.Alike.refl U.vm) qK⟩, va_recv hKc hPc (ci := 13) rfl (q0 := 0) rfl, fun U hU hW => ⟨rfl, by rw [hU]; exact hPc, va_K.moved hW.alike hKc⟩⟩ rfl rfl hl.1 rfl (lv_room (Nat.le_of_ble_eq_true rfl)) d_AB_ensureCapacityInternal_24 ⟨Nat.le_of_ble_eq_true rfl, Nat.le_of_ble_eq_true rfl⟩)) (fun r1 hw2 => ?_)
  have hw2 : r1 = 70 := hw2
  obtain rfl := hw2
  refine lv_aload_n hx hb d_AB_ensureCapacityInternal_27 rfl (lv_at hl 1 rfl) ?_
  refine va_get (D := (dC, dI)) (ci := 13) (v := .int 0) (C := R_SB) (T := T_SB) (N := 4) hx hb htb in_SB hown hK hP 0 rfl rfl 1 (by decide) (htb _ m_56) (fun _ h9 => h9) rfl d_AB_ensureCapacityInternal_28 ?_
  refine lv_ishl hx hb d_AB_ensureCapacityInternal_31 ?_
  refine W.eq (congrArg (fun z => F0 m 32 ls (.int z :: [.ref bv, .ref x])) (by decide : ((70 : Int32) <<< ((0 : Int32) &&& 31)) = 70)) ?_
  have hPc := hP.sub (ws' := [(bv, .inl (cB, 34, .inl f))]) [1] rfl
  have hDc := hD.sub (ws' := [(bv, .inl (cB, 34, .inl f))]) [1] (by decide) rfl
  have hFc := va_free (wc := [(bv, .inl (cB, 34, .inl f))]) hD hS hA [1] rfl
  have hKc := hK.sub (tys' := [(cB, .byte)]) [0] rfl
  refine va_callr (va_runS (As := [.ref bv, .int 70]) (rest := [.ref x]) ⟨hx, hb, hml, hown, htb⟩ (k_AR_copyOf_34 l dC dI _ bv cB f hf) (va_cwS 2 htb (g_S (fun _ h => h) m_221 m_219 m_220 m_14) rfl rfl rfl (by decide +kernel) ⟨Nat.le_of_ble_eq_true rfl, Nat.le_of_ble_eq_true rfl⟩) ⟨fun a U g mk q => by obtain ⟨q0, q1, qP, qK, qD⟩ := q; exact ⟨q0, q1, qP, va_K.moved (u := U) (U := U.calling g mk a) (Vm.Alike.refl U.vm) qK, qD⟩, fun U hU hW => ⟨rfl, by rw [hU], by rw [hU]; exact hPc, va_K.moved hW.alike hKc, hDc.weaken (fun _ _ _ _ => trivial)⟩⟩ rfl rfl hl.1 rfl (lv_room (Nat.le_of_ble_eq_true rfl)) d_AB_ensureCapacityInternal_32 ⟨Nat.le_of_ble_eq_true rfl, Nat.le_of_ble_eq_true rfl⟩) hS (fun q _ h => hFc q h) hFc (fun u3 ra6 t H1 locs ht hvm hw5 hB hz1 hk1 hS => ?_)
  obtain ⟨hP1, hK1, hD1⟩ := hB
  rw [ht] at hP1
  have hK1 := va_K.moved hvm.symm hK1
  have hw5 : True := hw5
  obtain ⟨hP, hD⟩ := va_join (wr := [(x, .inr (13, [.ref bv, .int 0, .int ml, .int (nI n)]))]) (w1 := [(bv, .inl (cB, 34, .inl f)), (ra6, .inl (cB, 70, .inl (va_cpy f (fun _ => 0) 0 0 34)))]) hP hD [1] [0] rfl rfl (by decide) (by decide) hk1 hFc hP1 hD1
  have hK := (hK.sub (tys' := []) [] rfl).app hK1
  generalize H1 = H at hP hS ⊢
  have hP : va_P (dC, dI) vwCl [(x, .inr (13, [.ref bv, .int 0, .int ml, .int (nI n)])), (bv, .inl (cB, 34, .inl f)), (ra6, .inl (cB, 70, .inl (va_cpy f (fun _ => 0) 0 0 34)))] H := hP
  have hD : va_D A [(x, .inr (13, [.ref bv, .int 0, .int ml, .int (nI n)])), (bv, .inl (cB, 34, .inl f)), (ra6, .inl (cB, 70, .inl (va_cpy f (fun _ => 0) 0 0 34)))] := hD
  have hK : va_K (dC, dI) vwCl [(cB, .byte)] s := hK
  refine W.widen (k := 1) (n := 70) (Nat.le_of_ble_eq_true rfl) (Nat.le_of_ble_eq_true rfl) ?_
  refine va_put (D := (dC, dI)) (ci := 13) (v := .ref ra6) (ty := (.array .byte)) (C := R_SB) (T := T_SB) (N := 4) hx hb htb in_SB ty_SB ty_SB_ok nm_SB hown hK hP hD hS 0 rfl rfl 0 (by decide) (htb _ m_55) (fun _ h9 => h9) rfl (by decide +kernel) rfl rfl (Nat.le_of_ble_eq_true rfl) d_AB_ensureCapacityInternal_35 (fun H locs hP hD hS => ?_)
  have hP : va_P (dC, dI) vwCl [(x, .inr (13, [.ref ra6, .int 0, .int ml, .int (nI n)])), (bv, .inl (cB, 34, .inl f)), (ra6, .inl (cB, 70, .inl (va_cpy f (fun _ => 0) 0 0 34)))] H := hP
  have hD : va_D A [(x, .inr (13, [.ref ra6, .int 0, .int ml, .int (nI n)])), (bv, .inl (cB, 34, .inl f)), (ra6, .inl (cB, 70, .inl (va_cpy f (fun _ => 0) 0 0 34)))] := hD
  have hP9 := hP.sub (ws' := [(x, .inr (13, [.ref ra6, .int 0, .int ml, .int (nI n)])), (ra6, .inl (cB, 70, .inl (va_cpy f (fun _ => 0) 0 0 34)))]) [0, 2] rfl
  have hD9 := hD.sub (ws' := [(x, .inr (13, [.ref ra6, .int 0, .int ml, .int (nI n)])), (ra6, .inl (cB, 70, .inl (va_cpy f (fun _ => 0) 0 0 34)))]) [0, 2] (by decide) rfl
  have hK9 := hK.sub (tys' := [(cB, .byte)]) [0] rfl
  refine W.widen (k := 1) (n := 70) (Nat.le_of_ble_eq_true rfl) (Nat.le_of_ble_eq_true rfl) ?_
  exact W.vret hx hb hr (fun t ht hW => ⟨⟨(), rfl, trivial, ⟨ra6, by rw [ht]; exact hP9, va_K.moved hW.alike hK9, hD9⟩⟩, hS.F ht⟩) hS.2.2 d_AB_ensureCapacityInternal_38
set_option maxHeartbeats 1000000 in
set_option maxRecDepth 100000 in
/-- ensureCapacityInternal(71): from 70 to 142 bytes -/
theorem k_AB_grow_70 (l : Launch) (dC : Nat → ClassId) (dI : Nat → Nat → Nat) (sz : Nat) (x : Nat) (bv : Nat) (ml : Int32) (n : Nat) (cB : ClassId) (f : Nat → Int32) (hf : sb_Fit f) : Met l y_AB_ensureCapacityInternal ws_AB_ensureCapacityInternal ({ frames := 3, cells := 1, slots := 142, locals := 62 }) (va_Pc [.ref x, .int 71] (fun U => U.heap.size = sz ∧ va_P (dC, dI) vwCl [(x, .inr (13, [.ref bv, .int 0, .int ml, .int (nI n)])), (bv, .inl (cB, 70, .inl f))] U.heap ∧ va_K (dC, dI) vwCl [(cB, .byte)] U ∧ va_D (fun _ => True) [(x, .inr (13, [.ref bv, .int 0, .int ml, .int (nI n)])), (bv, .inl (cB, 70, .inl f))])) (va_Qv (fun (u : Unit) => True) (fun u t => ∃ (bw : Nat), va_P (dC, dI) vwCl [(x, .inr (13, [.ref bw, .int 0, .int ml, .int (nI n)])), (bw, .inl (cB, 142, .inl (va_cpy f (fun _ => 0) 0 0 70)))] t.heap ∧ va_K (dC, dI) vwCl [(cB, .byte)] t ∧ va_D (va_A [(x, .inr (13, [.ref bv, .int 0, .int ml, .int (nI n)])), (bv, .inl (cB, 70, .inl f))] sz) [(x, .inr (13, [.ref bw, .int 0, .int ml, .int (nI n)])), (bw, .inl (cB, 142, .inl (va_cpy f (fun _ => 0) 0 0 70)))]) (va_A [(x, .inr (13, [.ref bv, .int 0, .int ml, .int (nI n)])), (bv, .inl (cB, 70, .inl f))] sz)) 1 142 (va_A [(x, .inr (13, [.ref bv, .int 0, .int ml, .int (nI n)])), (bv, .inl (cB, 70, .inl f))] sz) := by
  refine Met.ofW (cc := c_AB_ensureCapacityInternal) (maxL := 3) (ret := none) (by decide) rfl ?_
  intro p e s m args below meth c s₁ B hml hv
  obtain ⟨rfl, hsz, hP, hK, hD0⟩ := hv
  have hx := B.exec
  have hb := B.bytes
  have hr := B.returns
  have hts := atoms_spec (ws := ws_AB_ensureCapacityInternal) B.pre
  have htb := fun w (h : w ∈ TBL) => hts w (List.mem_cons_of_mem _ h)
  have hown : s.vm.findClass R_AB = some m.cls := findClass_of_methodNamed B.named
  have hlocks := B.notSynchronized
  subst hsz
  have hD := hD0.self (sz := s.heap.size)
  generalize hAe : va_A [(x, .inr (13, [.ref bv, .int 0, .int ml, .int (nI n)])), (bv, .inl (cB, 70, .inl f))] s.heap.size = A at hD ⊢
  have hA : ∀ q : Nat, s.heap.size ≤ q → A q := fun q h => by rw [← hAe]; exact Or.inr h
  have hS : va_S A s.heap s.heap [] := va_S.rf
  have hP : va_P (dC, dI) vwCl [(x, .inr (13, [.ref bv, .int 0, .int ml, .int (nI n)])), (bv, .inl (cB, 70, .inl f))] s.heap := hP
  have hl := lv_entry ([.ref x, .int 71]) (n := 3) (Nat.le_of_ble_eq_true rfl)
  rw [lg_entry_eq]
  generalize (lg_sl ([.ref x, .int 71]) ++ List.replicate (3 - (lg_sl ([.ref x, .int 71])).length) Slot.unset).toArray = ls at hl ⊢
  have hl : lv_has ls 3 [(0, .ref x), (1, .int 71)] := hl
  refine lv_aload_n hx hb d_AB_ensureCapacityInternal_0 rfl (lv_at hl 0 rfl) ?_
  refine va_get (D := (dC, dI)) (ci := 13) (v := .ref bv) (C := R_SB) (T := T_SB) (N := 4) hx hb htb in_SB hown hK hP 0 rfl rfl 0 (by decide) (htb _ m_55) (fun _ h9 => h9) rfl d_AB_ensureCapacityInternal_1 ?_
  refine va_alen (v := 70) hx hb hK hP 1 0 rfl rfl rfl d_AB_ensureCapacityInternal_4 ?_
  refine lv_aload_n hx hb d_AB_ensureCapacityInternal_5 rfl (lv_at hl 0 rfl) ?_
  refine va_get (D := (dC, dI)) (ci := 13) (v := .int 0) (C := R_SB) (T := T_SB) (N := 4) hx hb htb in_SB hown hK hP 0 rfl rfl 1 (by decide) (htb _ m_56) (fun _ h9 => h9) rfl d_AB_ensureCapacityInternal_6 ?_
  refine lv_ishr hx hb d_AB_ensureCapacityInternal_9 ?_
  refine W.eq (congrArg (fun z => F0 m 10 ls (.int z :: [])) (by decide : ((70 : Int32) >>> ((0 : Int32) &&& 31)) = 70)) ?_
  refine lv_istore_n hx hb d_AB_ensureCapacityInternal_10 rfl hl (by decide) rfl (fun ls hl => ?_)
  have hl : lv_has ls 3 [(2, .int 70), (0, .ref x), (1, .int 71)] := hl
  refine lv_iload_n hx hb d_AB_ensureCapacityInternal_11 rfl (lv_at hl 2 rfl) ?_
  refine lv_iload_n hx hb d_AB_ensureCapacityInternal_12 rfl (lv_at hl 0 rfl) ?_
  refine lv_isub hx hb d_AB_ensureCapacityInternal_13 ?_
  refine W.eq (congrArg (fun z => F0 m 14 ls (.int z :: [])) (by decide : ((71 : Int32) - 70) = 1)) ?_
  refine lv_if_le (tgt := 38) hx hb d_AB_ensureCapacityInternal_14 rfl (fun h9 => absurd h9 (by decide)) (fun _ => ?_)
  refine lv_aload_n hx hb d_AB_ensureCapacityInternal_17 rfl (lv_at hl 1 rfl) ?_
  refine lv_aload_n hx hb d_AB_ensureCapacityInternal_18 rfl (lv_at hl 1 rfl) ?_
  refine va_get (D := (dC, dI)) (ci := 13) (v := .ref bv) (C := R_SB) (T := T_SB) (N := 4) hx hb htb in_SB hown hK hP 0 rfl rfl 0 (by decide) (htb _ m_55) (fun _ h9 => h9) rfl d_AB_ensureCapacityInternal_19 ?_
  refine lv_aload_n hx hb d_AB_ensureCapacityInternal_22 rfl (lv_at hl 1 rfl) ?_
  refine lv_iload_n hx hb d_AB_ensureCapacityInternal_23 rfl (lv_at hl 2 rfl) ?_
  have hPc : va_P (dC, dI) vwCl [(x, .inr (13, [.ref bv, .int 0, .int ml, .int (nI n)])), (bv, .inl (cB, 70, .inl f))] _ := hP.sub (ws' := [(x, .inr (13, [.ref bv, .int 0, .int ml, .int (nI n)])), (bv, .inl (cB, 70, .inl f))]) [0, 1] rfl
  have hKc := hK.sub (tys' := [(cB, .byte)]) [0] rfl
  refine vp_callSi (va_Run.run (va_runU (As := [.int 71]) (rest := [.ref bv, .ref x]) ⟨hx, hb, hml, hown, htb⟩ (q_AB_newCapacity_70 l dC dI x bv ml n cB f ) (va_cwU 1 htb (g_U (fun _ h => h) m_207 m_204 m_1601 m_1714 m_206 m_2) rfl rfl rfl rfl (by decide +kernel) ⟨Nat.le_of_ble_eq_true rfl, Nat.le_of_ble_eq_true rfl⟩) ⟨fun a U g mk q => by obtain ⟨q0, qP, qK⟩ := q; exact ⟨q0, qP, va_K.moved (u := U) (U := U.calling g mk a) (Vm.Alike.refl U.vm) qK⟩, va_recv hKc hPc (ci := 13) rfl (q0 := 0) rfl, fun U hU hW => ⟨rfl, by rw [hU]; exact hPc, va_K.moved hW.alike hKc⟩⟩ rfl rfl hl.1 rfl (lv_room (Nat.le_of_ble_eq_true rfl)) d_AB_ensureCapacityInternal_24 ⟨Nat.le_of_ble_eq_true rfl, Nat.le_of_ble_eq_true rfl⟩)) (fun r1 hw2 => ?_)
  have hw2 : r1 = 142 := hw2
  obtain rfl := hw2
  refine lv_aload_n hx hb d_AB_ensureCapacityInternal_27 rfl (lv_at hl 1 rfl) ?_
  refine va_get (D := (dC, dI)) (ci := 13) (v := .int 0) (C := R_SB) (T := T_SB) (N := 4) hx hb htb in_SB hown hK hP 0 rfl rfl 1 (by decide) (htb _ m_56) (fun _ h9 => h9) rfl d_AB_ensureCapacityInternal_28 ?_
  refine lv_ishl hx hb d_AB_ensureCapacityInternal_31 ?_
  refine W.eq (congrArg (fun z => F0 m 32 ls (.int z :: [.ref bv, .ref x])) (by decide : ((142 : Int32) <<< ((0 : Int32) &&& 31)) = 142)) ?_
  have hPc := hP.sub (ws' := [(bv, .inl (cB, 70, .inl f))]) [1] rfl
  have hDc := hD.sub (ws' := [(bv, .inl (cB, 70, .inl f))]) [1] (by decide) rfl
  have hFc := va_free (wc := [(bv, .inl (cB, 70, .inl f))]) hD hS hA [1] rfl
  have hKc := hK.sub (tys' := [(cB, .byte)]) [0] rfl
  refine va_callr (va_runS (As := [.ref bv, .int 142]) (rest := [.ref x]) ⟨hx, hb, hml, hown, htb⟩ (k_AR_copyOf_70 l dC dI _ bv cB f hf) (va_cwS 2 htb (g_S (fun _ h => h) m_221 m_219 m_220 m_14) rfl rfl rfl (by decide +kernel) ⟨Nat.le_of_ble_eq_true rfl, Nat.le_of_ble_eq_true rfl⟩) ⟨fun a U g mk q => by obtain ⟨q0, q1, qP, qK, qD⟩ := q; exact ⟨q0, q1, qP, va_K.moved (u := U) (U := U.calling g mk a) (Vm.Alike.refl U.vm) qK, qD⟩, fun U hU hW => ⟨rfl, by rw [hU], by rw [hU]; exact hPc, va_K.moved hW.alike hKc, hDc.weaken (fun _ _ _ _ => trivial)⟩⟩ rfl rfl hl.1 rfl (lv_room (Nat.le_of_ble_eq_true rfl)) d_AB_ensureCapacityInternal_32 ⟨Nat.le_of_ble_eq_true rfl, Nat.le_of_ble_eq_true rfl⟩) hS (fun q _ h => hFc q h) hFc (fun u3 ra6 t H1 locs ht hvm hw5 hB hz1 hk1 hS => ?_)
  obtain ⟨hP1, hK1, hD1⟩ := hB
  rw [ht] at hP1
  have hK1 := va_K.moved hvm.symm hK1
  have hw5 : True := hw5
  obtain ⟨hP, hD⟩ := va_join (wr := [(x, .inr (13, [.ref bv, .int 0, .int ml, .int (nI n)]))]) (w1 := [(bv, .inl (cB, 70, .inl f)), (ra6, .inl (cB, 142, .inl (va_cpy f (fun _ => 0) 0 0 70)))]) hP hD [1] [0] rfl rfl (by decide) (by decide) hk1 hFc hP1 hD1
  have hK := (hK.sub (tys' := []) [] rfl).app hK1
  generalize H1 = H at hP hS ⊢
  have hP : va_P (dC, dI) vwCl [(x, .inr (13, [.ref bv, .int 0, .int ml, .int (nI n)])), (bv, .inl (cB, 70, .inl f)), (ra6, .inl (cB, 142, .inl (va_cpy f (fun _ => 0) 0 0 70)))] H := hP
  have hD : va_D A [(x, .inr (13, [.ref bv, .int 0, .int ml, .int (nI n)])), (bv, .inl (cB, 70, .inl f)), (ra6, .inl (cB, 142, .inl (va_cpy f (fun _ => 0) 0 0 70)))] := hD
  have hK : va_K (dC, dI) vwCl [(cB, .byte)] s := hK
  refine W.widen (k := 1) (n := 142) (Nat.le_of_ble_eq_true rfl) (Nat.le_of_ble_eq_true rfl) ?_
  refine va_put (D := (dC, dI)) (ci := 13) (v := .ref ra6) (ty := (.array .byte)) (C := R_SB) (T := T_SB) (N := 4) hx hb htb in_SB ty_SB ty_SB_ok nm_SB hown hK hP hD hS 0 rfl rfl 0 (by decide) (htb _ m_55) (fun _ h9 => h9) rfl (by decide +kernel) rfl rfl (Nat.le_of_ble_eq_true rfl) d_AB_ensureCapacityInternal_35 (fun H locs hP hD hS => ?_)
  have hP : va_P (dC, dI) vwCl [(x, .inr (13, [.ref ra6, .int 0, .int ml, .int (nI n)])), (bv, .inl (cB, 70, .inl f)), (ra6, .inl (cB, 142, .inl (va_cpy f (fun _ => 0) 0 0 70)))] H := hP
  have hD : va_D A [(x, .inr (13, [.ref ra6, .int 0, .int ml, .int (nI n)])), (bv, .inl (cB, 70, .inl f)), (ra6, .inl (cB, 142, .inl (va_cpy f (fun _ => 0) 0 0 70)))] := hD
  have hP9 := hP.sub (ws' := [(x, .inr (13, [.ref ra6, .int 0, .int ml, .int (nI n)])), (ra6, .inl (cB, 142, .inl (va_cpy f (fun _ => 0) 0 0 70)))]) [0, 2] rfl
  have hD9 := hD.sub (ws' := [(x, .inr (13, [.ref ra6, .int 0, .int ml, .int (nI n)])), (ra6, .inl (cB, 142, .inl (va_cpy f (fun _ => 0) 0 0 70)))]) [0, 2] (by decide) rfl
  have hK9 := hK.sub (tys' := [(cB, .byte)]) [0] rfl
  refine W.widen (k := 1) (n := 142) (Nat.le_of_ble_eq_true rfl) (Nat.le_of_ble_eq_true rfl) ?_
  exact W.vret hx hb hr (fun t ht hW => ⟨⟨(), rfl, trivial, ⟨ra6, by rw [ht]; exact hP9, va_K.moved hW.alike hK9, hD9⟩⟩, hS.F ht⟩) hS.2.2 d_AB_ensureCapacityInternal_38
set_option maxHeartbeats 1000000 in
set_option maxRecDepth 100000 in
/-- ensureCapacityInternal(143): from 142 to 286 bytes -/
theorem k_AB_grow_142 (l : Launch) (dC : Nat → ClassId) (dI : Nat → Nat → Nat) (sz : Nat) (x : Nat) (bv : Nat) (ml : Int32) (n : Nat) (cB : ClassId) (f : Nat → Int32) (hf : sb_Fit f) : Met l y_AB_ensureCapacityInternal ws_AB_ensureCapacityInternal ({ frames := 3, cells := 1, slots := 286, locals := 62 }) (va_Pc [.ref x, .int 143] (fun U => U.heap.size = sz ∧ va_P (dC, dI) vwCl [(x, .inr (13, [.ref bv, .int 0, .int ml, .int (nI n)])), (bv, .inl (cB, 142, .inl f))] U.heap ∧ va_K (dC, dI) vwCl [(cB, .byte)] U ∧ va_D (fun _ => True) [(x, .inr (13, [.ref bv, .int 0, .int ml, .int (nI n)])), (bv, .inl (cB, 142, .inl f))])) (va_Qv (fun (u : Unit) => True) (fun u t => ∃ (bw : Nat), va_P (dC, dI) vwCl [(x, .inr (13, [.ref bw, .int 0, .int ml, .int (nI n)])), (bw, .inl (cB, 286, .inl (va_cpy f (fun _ => 0) 0 0 142)))] t.heap ∧ va_K (dC, dI) vwCl [(cB, .byte)] t ∧ va_D (va_A [(x, .inr (13, [.ref bv, .int 0, .int ml, .int (nI n)])), (bv, .inl (cB, 142, .inl f))] sz) [(x, .inr (13, [.ref bw, .int 0, .int ml, .int (nI n)])), (bw, .inl (cB, 286, .inl (va_cpy f (fun _ => 0) 0 0 142)))]) (va_A [(x, .inr (13, [.ref bv, .int 0, .int ml, .int (nI n)])), (bv, .inl (cB, 142, .inl f))] sz)) 1 286 (va_A [(x, .inr (13, [.ref bv, .int 0, .int ml, .int (nI n)])), (bv, .inl (cB, 142, .inl f))] sz) := by
  refine Met.ofW (cc := c_AB_ensureCapacityInternal) (maxL := 3) (ret := none) (by decide) rfl ?_
  intro p e s m args below meth c s₁ B hml hv
  obtain ⟨rfl, hsz, hP, hK, hD0⟩ := hv
  have hx := B.exec
  have hb := B.bytes
  have hr := B.returns
  have hts := atoms_spec (ws := ws_AB_ensureCapacityInternal) B.pre
  have htb := fun w (h : w ∈ TBL) => hts w (List.mem_cons_of_mem _ h)
  have hown : s.vm.findClass R_AB = some m.cls := findClass_of_methodNamed B.named
  have hlocks := B.notSynchronized
  subst hsz
  have hD := hD0.self (sz := s.heap.size)
  generalize hAe : va_A [(x, .inr (13, [.ref bv, .int 0, .int ml, .int (nI n)])), (bv, .inl (cB, 142, .inl f))] s.heap.size = A at hD ⊢
  have hA : ∀ q : Nat, s.heap.size ≤ q → A q := fun q h => by rw [← hAe]; exact Or.inr h
  have hS : va_S A s.heap s.heap [] := va_S.rf
  have hP : va_P (dC, dI) vwCl [(x, .inr (13, [.ref bv, .int 0, .int ml, .int (nI n)])), (bv, .inl (cB, 142, .inl f))] s.heap := hP
  have hl := lv_entry ([.ref x, .int 143]) (n := 3) (Nat.le_of_ble_eq_true rfl)
  rw [lg_entry_eq]
  generalize (lg_sl ([.ref x, .int 143]) ++ List.replicate (3 - (lg_sl ([.ref x, .int 143])).length) Slot.unset).toArray = ls at hl ⊢
  have hl : lv_has ls 3 [(0, .ref x), (1, .int 143)] := hl
  refine lv_aload_n hx hb d_AB_ensureCapacityInternal_0 rfl (lv_at hl 0 rfl) ?_
  refine va_get (D := (dC, dI)) (ci := 13) (v := .ref bv) (C := R_SB) (T := T_SB) (N := 4) hx hb htb in_SB hown hK hP 0 rfl rfl 0 (by decide) (htb _ m_55) (fun _ h9 => h9) rfl d_AB_ensureCapacityInternal_1 ?_
  refine va_alen (v := 142) hx hb hK hP 1 0 rfl rfl rfl d_AB_ensureCapacityInternal_4 ?_
  refine lv_aload_n hx hb d_AB_ensureCapacityInternal_5 rfl (lv_at hl 0 rfl) ?_
  refine va_get (D := (dC, dI)) (ci := 13) (v := .int 0) (C := R_SB) (T := T_SB) (N := 4) hx hb htb in_SB hown hK hP 0 rfl rfl 1 (by decide) (htb _ m_56) (fun _ h9 => h9) rfl d_AB_ensureCapacityInternal_6 ?_
  refine lv_ishr hx hb d_AB_ensureCapacityInternal_9 ?_
  refine W.eq (congrArg (fun z => F0 m 10 ls (.int z :: [])) (by decide : ((142 : Int32) >>> ((0 : Int32) &&& 31)) = 142)) ?_
  refine lv_istore_n hx hb d_AB_ensureCapacityInternal_10 rfl hl (by decide) rfl (fun ls hl => ?_)
  have hl : lv_has ls 3 [(2, .int 142), (0, .ref x), (1, .int 143)] := hl
  refine lv_iload_n hx hb d_AB_ensureCapacityInternal_11 rfl (lv_at hl 2 rfl) ?_
  refine lv_iload_n hx hb d_AB_ensureCapacityInternal_12 rfl (lv_at hl 0 rfl) ?_
  refine lv_isub hx hb d_AB_ensureCapacityInternal_13 ?_
  refine W.eq (congrArg (fun z => F0 m 14 ls (.int z :: [])) (by decide : ((143 : Int32) - 142) = 1)) ?_
  refine lv_if_le (tgt := 38) hx hb d_AB_ensureCapacityInternal_14 rfl (fun h9 => absurd h9 (by decide)) (fun _ => ?_)
  refine lv_aload_n hx hb d_AB_ensureCapacityInternal_17 rfl (lv_at hl 1 rfl) ?_
  refine lv_aload_n hx hb d_AB_ensureCapacityInternal_18 rfl (lv_at hl 1 rfl) ?_
  refine va_get (D := (dC, dI)) (ci := 13) (v := .ref bv) (C := R_SB) (T := T_SB) (N := 4) hx hb htb in_SB hown hK hP 0 rfl rfl 0 (by decide) (htb _ m_55) (fun _ h9 => h9) rfl d_AB_ensureCapacityInternal_19 ?_
  refine lv_aload_n hx hb d_AB_ensureCapacityInternal_22 rfl (lv_at hl 1 rfl) ?_
  refine lv_iload_n hx hb d_AB_ensureCapacityInternal_23 rfl (lv_at hl 2 rfl) ?_
  have hPc : va_P (dC, dI) vwCl [(x, .inr (13, [.ref bv, .int 0, .int ml, .int (nI n)])), (bv, .inl (cB, 142, .inl f))] _ := hP.sub (ws' := [(x, .inr (13, [.ref bv, .int 0, .int ml, .int (nI n)])), (bv, .inl (cB, 142, .inl f))]) [0, 1] rfl
  have hKc := hK.sub (tys' := [(cB, .byte)]) [0] rfl
  refine vp_callSi (va_Run.run (va_runU (As := [.int 143]) (rest := [.ref bv, .ref x]) ⟨hx, hb, hml, hown, htb⟩ (q_AB_newCapacity_142 l dC dI x bv ml n cB f ) (va_cwU 1 htb (g_U (fun _ h => h) m_207 m_204 m_1601 m_1714 m_206 m_2) rfl rfl rfl rfl (by decide +kernel) ⟨Nat.le_of_ble_eq_true rfl, Nat.le_of_ble_eq_true rfl⟩) ⟨fun a U g mk q => by obtain ⟨q0, qP, qK⟩ := q; exact ⟨q0, qP, va_K.moved (u := U) (U := U.calling g mk a) (Vm.Alike.refl U.vm) qK⟩, va_recv hKc hPc (ci := 13) rfl (q0 := 0) rfl, fun U hU hW => ⟨rfl, by rw [hU]; exact hPc, va_K.moved hW.alike hKc⟩⟩ rfl rfl hl.1 rfl (lv_room (Nat.le_of_ble_eq_true rfl)) d_AB_ensureCapacityInternal_24 ⟨Nat.le_of_ble_eq_true rfl, Nat.le_of_ble_eq_true rfl⟩)) (fun r1 hw2 => ?_)
  have hw2 : r1 = 286 := hw2
  obtain rfl := hw2
  refine lv_aload_n hx hb d_AB_ensureCapacityInternal_27 rfl (lv_at hl 1 rfl) ?_
  refine va_get (D := (dC, dI)) (ci := 13) (v := .int 0) (C := R_SB) (T := T_SB) (N := 4) hx hb htb in_SB hown hK hP 0 rfl rfl 1 (by decide) (htb _ m_56) (fun _ h9 => h9) rfl d_AB_ensureCapacityInternal_28 ?_
  refine lv_ishl hx hb d_AB_ensureCapacityInternal_31 ?_
  refine W.eq (congrArg (fun z => F0 m 32 ls (.int z :: [.ref bv, .ref x])) (by decide : ((286 : Int32) <<< ((0 : Int32) &&& 31)) = 286)) ?_
  have hPc := hP.sub (ws' := [(bv, .inl (cB, 142, .inl f))]) [1] rfl
  have hDc := hD.sub (ws' := [(bv, .inl (cB, 142, .inl f))]) [1] (by decide) rfl
  have hFc := va_free (wc := [(bv, .inl (cB, 142, .inl f))]) hD hS hA [1] rfl
  have hKc := hK.sub (tys' := [(cB, .byte)]) [0] rfl
  refine va_callr (va_runS (As := [.ref bv, .int 286]) (rest := [.ref x]) ⟨hx, hb, hml, hown, htb⟩ (k_AR_copyOf_142 l dC dI _ bv cB f hf) (va_cwS 2 htb (g_S (fun _ h => h) m_221 m_219 m_220 m_14) rfl rfl rfl (by decide +kernel) ⟨Nat.le_of_ble_eq_true rfl, Nat.le_of_ble_eq_true rfl⟩) ⟨fun a U g mk q => by obtain ⟨q0, q1, qP, qK, qD⟩ := q; exact ⟨q0, q1, qP, va_K.moved (u := U) (U := U.calling g mk a) (Vm.Alike.refl U.vm) qK, qD⟩, fun U hU hW => ⟨rfl, by rw [hU], by rw [hU]; exact hPc, va_K.moved hW.alike hKc, hDc.weaken (fun _ _ _ _ => trivial)⟩⟩ rfl rfl hl.1 rfl (lv_room (Nat.le_of_ble_eq_true rfl)) d_AB_ensureCapacityInternal_32 ⟨Nat.le_of_ble_eq_true rfl, Nat.le_of_ble_eq_true rfl⟩) hS (fun q _ h => hFc q h) hFc (fun u3 ra6 t H1 locs ht hvm hw5 hB hz1 hk1 hS => ?_)
  obtain ⟨hP1, hK1, hD1⟩ := hB
  rw [ht] at hP1
  have hK1 := va_K.moved hvm.symm hK1
  have hw5 : True := hw5
  obtain ⟨hP, hD⟩ := va_join (wr := [(x, .inr (13, [.ref bv, .int 0, .int ml, .int (nI n)]))]) (w1 := [(bv, .inl (cB, 142, .inl f)), (ra6, .inl (cB, 286, .inl (va_cpy f (fun _ => 0) 0 0 142)))]) hP hD [1] [0] rfl rfl (by decide) (by decide) hk1 hFc hP1 hD1
  have hK := (hK.sub (tys' := []) [] rfl).app hK1
  generalize H1 = H at hP hS ⊢
  have hP : va_P (dC, dI) vwCl [(x, .inr (13, [.ref bv, .int 0, .int ml, .int (nI n)])), (bv, .inl (cB, 142, .inl f)), (ra6, .inl (cB, 286, .inl (va_cpy f (fun _ => 0) 0 0 142)))] H := hP
  have hD : va_D A [(x, .inr (13, [.ref bv, .int 0, .int ml, .int (nI n)])), (bv, .inl (cB, 142, .inl f)), (ra6, .inl (cB, 286, .inl (va_cpy f (fun _ => 0) 0 0 142)))] := hD
  have hK : va_K (dC, dI) vwCl [(cB, .byte)] s := hK
  refine W.widen (k := 1) (n := 286) (Nat.le_of_ble_eq_true rfl) (Nat.le_of_ble_eq_true rfl) ?_
  refine va_put (D := (dC, dI)) (ci := 13) (v := .ref ra6) (ty := (.array .byte)) (C := R_SB) (T := T_SB) (N := 4) hx hb htb in_SB ty_SB ty_SB_ok nm_SB hown hK hP hD hS 0 rfl rfl 0 (by decide) (htb _ m_55) (fun _ h9 => h9) rfl (by decide +kernel) rfl rfl (Nat.le_of_ble_eq_true rfl) d_AB_ensureCapacityInternal_35 (fun H locs hP hD hS => ?_)
  have hP : va_P (dC, dI) vwCl [(x, .inr (13, [.ref ra6, .int 0, .int ml, .int (nI n)])), (bv, .inl (cB, 142, .inl f)), (ra6, .inl (cB, 286, .inl (va_cpy f (fun _ => 0) 0 0 142)))] H := hP
  have hD : va_D A [(x, .inr (13, [.ref ra6, .int 0, .int ml, .int (nI n)])), (bv, .inl (cB, 142, .inl f)), (ra6, .inl (cB, 286, .inl (va_cpy f (fun _ => 0) 0 0 142)))] := hD
  have hP9 := hP.sub (ws' := [(x, .inr (13, [.ref ra6, .int 0, .int ml, .int (nI n)])), (ra6, .inl (cB, 286, .inl (va_cpy f (fun _ => 0) 0 0 142)))]) [0, 2] rfl
  have hD9 := hD.sub (ws' := [(x, .inr (13, [.ref ra6, .int 0, .int ml, .int (nI n)])), (ra6, .inl (cB, 286, .inl (va_cpy f (fun _ => 0) 0 0 142)))]) [0, 2] (by decide) rfl
  have hK9 := hK.sub (tys' := [(cB, .byte)]) [0] rfl
  refine W.widen (k := 1) (n := 286) (Nat.le_of_ble_eq_true rfl) (Nat.le_of_ble_eq_true rfl) ?_
  exact W.vret hx hb hr (fun t ht hW => ⟨⟨(), rfl, trivial, ⟨ra6, by rw [ht]; exact hP9, va_K.moved hW.alike hK9, hD9⟩⟩, hS.F ht⟩) hS.2.2 d_AB_ensureCapacityInternal_38
set_option maxHeartbeats 1000000 in
set_option maxRecDepth 100000 in
/-- ensureCapacityInternal(k) where k bytes are there -/
theorem q_AB_fit (l : Launch) (dC : Nat → ClassId) (dI : Nat → Nat → Nat) (x : Nat) (bv : Nat) (ml : Int32) (n : Nat) (cB : ClassId) (f : Nat → Int32) (cap : Nat) (k : Nat) (hk : k ≤ cap) (hc : cap ≤ 286) : Met l y_AB_ensureCapacityInternal ws_AB_ensureCapacityInternal ({ frames := 0, cells := 0, slots := 0, locals := 0 }) (va_Pc [.ref x, .int (nI k)] (fun U => va_P (dC, dI) vwCl [(x, .inr (13, [.ref bv, .int 0, .int ml, .int (nI n)])), (bv, .inl (cB, cap, .inl f))] U.heap ∧ va_K (dC, dI) vwCl [(cB, .byte)] U)) (va_Sv (fun _ => True)) 0 0 (fun _ => False) := by
  refine Met.ofW (cc := c_AB_ensureCapacityInternal) (maxL := 3) (ret := none) (by decide) rfl ?_
  intro p e s m args below meth c s₁ B hml hv
  obtain ⟨rfl, hP, hK⟩ := hv
  have hx := B.exec
  have hb := B.bytes
  have hr := B.returns
  have hts := atoms_spec (ws := ws_AB_ensureCapacityInternal) B.pre
  have htb := fun w (h : w ∈ TBL) => hts w (List.mem_cons_of_mem _ h)
  have hown : s.vm.findClass R_AB = some m.cls := findClass_of_methodNamed B.named
  have hlocks := B.notSynchronized
  have hl := lv_entry ([.ref x, .int (nI k)]) (n := 3) (Nat.le_of_ble_eq_true rfl)
  rw [lg_entry_eq]
  generalize (lg_sl ([.ref x, .int (nI k)]) ++ List.replicate (3 - (lg_sl ([.ref x, .int (nI k)])).length) Slot.unset).toArray = ls at hl ⊢
  have hl : lv_has ls 3 [(0, .ref x), (1, .int (nI k))] := hl
  refine lv_aload_n hx hb d_AB_ensureCapacityInternal_0 rfl (lv_at hl 0 rfl) ?_
  refine va_get (D := (dC, dI)) (ci := 13) (v := .ref bv) (C := R_SB) (T := T_SB) (N := 4) hx hb htb in_SB hown hK hP 0 rfl rfl 0 (by decide) (htb _ m_55) (fun _ h9 => h9) rfl d_AB_ensureCapacityInternal_1 ?_
  refine va_alen (v := (nI cap)) hx hb hK hP 1 0 rfl rfl rfl d_AB_ensureCapacityInternal_4 ?_
  refine lv_aload_n hx hb d_AB_ensureCapacityInternal_5 rfl (lv_at hl 0 rfl) ?_
  refine va_get (D := (dC, dI)) (ci := 13) (v := .int 0) (C := R_SB) (T := T_SB) (N := 4) hx hb htb in_SB hown hK hP 0 rfl rfl 1 (by decide) (htb _ m_56) (fun _ h9 => h9) rfl d_AB_ensureCapacityInternal_6 ?_
  refine lv_ishr hx hb d_AB_ensureCapacityInternal_9 ?_
  refine W.eq (congrArg (fun z => F0 m 10 ls (.int z :: [])) (sc_shr0 (by omega) : (nI cap >>> ((0 : Int32) &&& 31)) = nI cap)) ?_
  refine lv_istore_n hx hb d_AB_ensureCapacityInternal_10 rfl hl (by decide) rfl (fun ls hl => ?_)
  have hl : lv_has ls 3 [(2, .int (nI cap)), (0, .ref x), (1, .int (nI k))] := hl
  refine lv_iload_n hx hb d_AB_ensureCapacityInternal_11 rfl (lv_at hl 2 rfl) ?_
  refine lv_iload_n hx hb d_AB_ensureCapacityInternal_12 rfl (lv_at hl 0 rfl) ?_
  refine lv_isub hx hb d_AB_ensureCapacityInternal_13 ?_
  refine lv_if_le (tgt := 38) hx hb d_AB_ensureCapacityInternal_14 rfl (fun _ => ?_) (fun h9 => absurd (by rw [Int32.le_iff_toInt_le, pk_sub_toInt (by omega) (by omega), Int32.toInt_zero]; omega) h9)
  exact W.vret hx hb hr (fun t ht hW => ⟨rfl, trivial, ht⟩) (fun q h => absurd h List.not_mem_nil) d_AB_ensureCapacityInternal_38
set_option maxHeartbeats 1000000 in
set_option maxRecDepth 100000 in
/-- isLatin1() -/
theorem q_AB_isLatin1 (l : Launch) (dC : Nat → ClassId) (dI : Nat → Nat → Nat) (x : Nat) (bv : Nat) (ml : Int32) (n : Nat) (em : Nat) (aK : Nat → Nat) (aV : Nat → Nat) (A : Nat → Prop) : Met l y_AB_isLatin1 ws_AB_isLatin1 ({ frames := 0, cells := 0, slots := 0, locals := 0 }) (va_Pc [.ref x] (fun U => va_P (dC, dI) vwCl [(x, .inr (13, [.ref bv, .int 0, .int ml, .int (nI n)]))] U.heap ∧ va_K (dC, dI) vwCl [] U ∧ EX em aK aV A U U.heap)) (vp_Si (fun (r : Int32) => r = 1)) 0 0 (fun _ => False) := by
  refine Met.ofW (cc := c_AB_isLatin1) (maxL := 1) (ret := (some .boolean)) (by decide) rfl ?_
  intro p e s m args below meth c s₁ B hml hv
  obtain ⟨rfl, hP, hK, hE⟩ := hv
  have hx := B.exec
  have hb := B.bytes
  have hr := B.returns
  have hts := atoms_spec (ws := ws_AB_isLatin1) B.pre
  have htb := fun w (h : w ∈ TBL) => hts w (List.mem_cons_of_mem _ h)
  have hown : s.vm.findClass R_AB = some m.cls := findClass_of_methodNamed B.named
  have hlocks := B.notSynchronized
  have hl := lv_entry ([.ref x]) (n := 1) (Nat.le_of_ble_eq_true rfl)
  rw [lg_entry_eq]
  generalize (lg_sl ([.ref x]) ++ List.replicate (1 - (lg_sl ([.ref x])).length) Slot.unset).toArray = ls at hl ⊢
  have hl : lv_has ls 1 [(0, .ref x)] := hl
  have hSA : va_S A s.heap s.heap [] := va_S.rf
  refine va_gets hx hb hE.compact hSA hown (htb _ m_46) (fun _ h9 => h9) d_AB_isLatin1_0 ?_
  refine lv_if_eq (tgt := 17) hx hb d_AB_isLatin1_3 rfl (fun h9 => absurd h9 (by decide)) (fun _ => ?_)
  refine lv_aload_n hx hb d_AB_isLatin1_6 rfl (lv_at hl 0 rfl) ?_
  refine va_get (D := (dC, dI)) (ci := 13) (v := .int 0) (C := R_SB) (T := T_SB) (N := 4) hx hb htb in_SB hown hK hP 0 rfl rfl 1 (by decide) (htb _ m_56) (fun _ h9 => h9) rfl d_AB_isLatin1_7 ?_
  refine lv_if_ne (tgt := 17) hx hb d_AB_isLatin1_10 rfl (fun h9 => absurd (rfl) h9) (fun _ => ?_)
  refine lv_iconst (v := 1) hx hb d_AB_isLatin1_13 (by decide) ?_
  refine lv_goto (tgt := 18) hx hb d_AB_isLatin1_14 rfl ?_
  exact W.zret (v := 1) hx hb hr (by decide) (fun t ht hW => ⟨1, rfl, rfl, ht⟩) (fun q h => absurd h List.not_mem_nil) d_AB_isLatin1_18
set_option maxHeartbeats 1000000 in
set_option maxRecDepth 100000 in
/-- canEncode(c) of a small code -/
theorem q_LT_canEncode (l : Launch) (dC : Nat → ClassId) (dI : Nat → Nat → Nat) (k : Nat) (hk : k < 128) : Met l y_LT_canEncode ws_LT_canEncode ({ frames := 0, cells := 0, slots := 0, locals := 0 }) (va_Pc [.int (nI k)] (fun U => va_P (dC, dI) vwCl [] U.heap ∧ va_K (dC, dI) vwCl [] U)) (vp_Si (fun (r : Int32) => r = 1)) 0 0 (fun _ => False) := by
  refine Met.ofW (cc := c_LT_canEncode) (maxL := 1) (ret := (some .boolean)) (by decide) rfl ?_
  intro p e s m args below meth c s₁ B hml hv
  obtain ⟨rfl, hP, hK⟩ := hv
  have hx := B.exec
  have hb := B.bytes
  have hr := B.returns
  have hts := atoms_spec (ws := ws_LT_canEncode) B.pre
  have htb := fun w (h : w ∈ TBL) => hts w (List.mem_cons_of_mem _ h)
  have hown : s.vm.findClass R_LT = some m.cls := findClass_of_methodNamed B.named
  have hlocks := B.notSynchronized
  have hl := lv_entry ([.int (nI k)]) (n := 1) (Nat.le_of_ble_eq_true rfl)
  rw [lg_entry_eq]
  generalize (lg_sl ([.int (nI k)]) ++ List.replicate (1 - (lg_sl ([.int (nI k)])).length) Slot.unset).toArray = ls at hl ⊢
  have hl : lv_has ls 1 [(0, .int (nI k))] := hl
  refine lv_iload_n hx hb d_LT_canEncode_0 rfl (lv_at hl 0 rfl) ?_
  refine lv_sipush (v := 255) hx hb d_LT_canEncode_1 (by decide) ?_
  refine lv_icmp_gt (tgt := 11) hx hb d_LT_canEncode_4 rfl (fun h9 => absurd h9 (nI_nlt (a := 255) (b := k) (by omega) (by decide))) (fun _ => ?_)
  refine lv_iconst (v := 1) hx hb d_LT_canEncode_7 (by decide) ?_
  refine lv_goto (tgt := 12) hx hb d_LT_canEncode_8 rfl ?_
  exact W.zret (v := 1) hx hb hr (by decide) (fun t ht hW => ⟨1, rfl, rfl, ht⟩) (fun q h => absurd h List.not_mem_nil) d_LT_canEncode_12
