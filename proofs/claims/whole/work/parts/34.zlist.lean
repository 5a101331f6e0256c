theorem ac_ge : ∀ n, n < 161 → n ≤ acap n ∧ acap n ≤ 163 := by decide +kernel
theorem ALz.recv {cO : ClassId} {em : Nat} {tl ws : va_W} {pa : Nat} {xs : List Nat} {s : State} {H : Heap} {dC : Nat → ClassId} {dI : Nat → Nat → Nat} {tys : List (ClassId × FieldType)} (h : ALz cO em tl pa xs) (hK : va_K (dC, dI) vwCl tys s) (hP : va_P (dC, dI) vwCl ws H) (hs : ∀ q ∈ tl, q ∈ ws) : ∃ cell : Cell, H[pa]? = some cell ∧ cell.vm.isStatics = false ∧ s.vm.findClass "java/util/ArrayList" = some cell.cls := by
  obtain ⟨-, mo, ⟨-, hm⟩ | ⟨-, ed, f, hm, -⟩⟩ := h
  · exact zz_recv hK hP (ci := 14) rfl (hs _ hm)
  · exact zz_recv hK hP (ci := 14) rfl (hs _ hm)
/-- the cell of a value -/
theorem VT.cell {cB cO : ClassId} {em : Nat} {aK : Nat → Nat} {d : Nat} {tl : va_W} {a : Nat} {nn : List Nat} {rows : List Row} (h : VT cB cO em aK d tl a nn rows) : ∃ (d0 : Nat) (kd : Int32) (tx : Nat) (nu : Int64) (nm pa : Nat) (dp cn : Int32), VAc a kd tx nu nm pa dp cn ∈ tl ∧ dp = nI (dpt rows) ∧ cn = nI rows.length := by
  cases d with
  | zero => exact h.elim
  | succ d =>
    obtain ⟨kd, tx, nu, nm, pa, dp, cn, _, _, _, _, _, _, _, h1, _, _, _, _, _, _, _, _, _, h2, h3⟩ := h
    exact ⟨d, kd, tx, nu, nm, pa, dp, cn, h1, h2, h3⟩
set_option maxHeartbeats 1000000 in
set_option maxRecDepth 100000 in
/-- size() of a frozen list -/
theorem z_AL_size (l : Launch) (dC : Nat → ClassId) (dI : Nat → Nat → Nat) (x : Nat) (xs : List Nat) (cO : ClassId) (em : Nat) (tl : va_W) (hal : ALz cO em tl x xs) : Met l y_AL_size ws_AL_size ({ frames := 0, cells := 0, slots := 0, locals := 0 }) (va_Pc [.ref x] (fun U => va_P (dC, dI) vwCl ([] ++ tl) U.heap ∧ va_K (dC, dI) vwCl [] U)) (vp_Si (fun (r : Int32) => r = nI xs.length)) 0 0 (fun _ => False) := by
  refine Met.ofW (cc := c_AL_size) (maxL := 1) (ret := (some .int)) (by decide) rfl ?_
  intro p e s m args below meth c s₁ B hml hv
  obtain ⟨rfl, hP, hK⟩ := hv
  have hx := B.exec
  have hb := B.bytes
  have hr := B.returns
  have hts := atoms_spec (ws := ws_AL_size) B.pre
  have htb := fun w (h : w ∈ TBL) => hts w (List.mem_cons_of_mem _ h)
  have hown : s.vm.findClass R_AL = some m.cls := findClass_of_methodNamed B.named
  have hlocks := B.notSynchronized
  have hl := lv_entry ([.ref x]) (n := 1) (Nat.le_of_ble_eq_true rfl)
  rw [lg_entry_eq]
  generalize (lg_sl ([.ref x]) ++ List.replicate (1 - (lg_sl ([.ref x])).length) Slot.unset).toArray = ls at hl ⊢
  have hl : lv_has ls 1 [(0, .ref x)] := hl
  obtain ⟨h0, mo, ⟨hxs, hm⟩ | ⟨hxs, ed, f9, hm, hm2, hf9⟩⟩ := hal
  · refine lv_aload_n hx hb d_AL_size_0 rfl (lv_at hl 0 rfl) ?_
    obtain ⟨qz1, hz1⟩ := List.getElem?_of_mem (List.mem_append_right [] hm)
    refine va_get (D := (dC, dI)) (ci := 14) (v := .int 0) (C := R_AL) (T := T_AL) (N := 3) hx hb htb in_AL hown hK hP qz1 hz1 rfl 1 (by decide) (htb _ m_88) (fun _ h9 => h9) rfl d_AL_size_1 ?_
    exact W.iret (v := 0) hx hb hr (fun t ht hW => ⟨0, rfl, by rw [hxs]; rfl, ht⟩) (fun q h => absurd h List.not_mem_nil) d_AL_size_4
  · refine lv_aload_n hx hb d_AL_size_0 rfl (lv_at hl 0 rfl) ?_
    obtain ⟨qz1, hz1⟩ := List.getElem?_of_mem (List.mem_append_right [] hm)
    refine va_get (D := (dC, dI)) (ci := 14) (v := .int (nI xs.length)) (C := R_AL) (T := T_AL) (N := 3) hx hb htb in_AL hown hK hP qz1 hz1 rfl 1 (by decide) (htb _ m_88) (fun _ h9 => h9) rfl d_AL_size_1 ?_
    exact W.iret (v := (nI xs.length)) hx hb hr (fun t ht hW => ⟨(nI xs.length), rfl, rfl, ht⟩) (fun q h => absurd h List.not_mem_nil) d_AL_size_4
set_option maxHeartbeats 1000000 in
set_option maxRecDepth 100000 in
/-- isEmpty() of a frozen list -/
theorem z_AL_isEmpty (l : Launch) (dC : Nat → ClassId) (dI : Nat → Nat → Nat) (x : Nat) (xs : List Nat) (cO : ClassId) (em : Nat) (tl : va_W) (hal : ALz cO em tl x xs) : Met l y_AL_isEmpty ws_AL_isEmpty ({ frames := 0, cells := 0, slots := 0, locals := 0 }) (va_Pc [.ref x] (fun U => va_P (dC, dI) vwCl ([] ++ tl) U.heap ∧ va_K (dC, dI) vwCl [] U)) (vp_Si (fun (r : Int32) => r = bI (decide (xs = [])))) 0 0 (fun _ => False) := by
  refine Met.ofW (cc := c_AL_isEmpty) (maxL := 1) (ret := (some .boolean)) (by decide) rfl ?_
  intro p e s m args below meth c s₁ B hml hv
  obtain ⟨rfl, hP, hK⟩ := hv
  have hx := B.exec
  have hb := B.bytes
  have hr := B.returns
  have hts := atoms_spec (ws := ws_AL_isEmpty) B.pre
  have htb := fun w (h : w ∈ TBL) => hts w (List.mem_cons_of_mem _ h)
  have hown : s.vm.findClass R_AL = some m.cls := findClass_of_methodNamed B.named
  have hlocks := B.notSynchronized
  have hl := lv_entry ([.ref x]) (n := 1) (Nat.le_of_ble_eq_true rfl)
  rw [lg_entry_eq]
  generalize (lg_sl ([.ref x]) ++ List.replicate (1 - (lg_sl ([.ref x])).length) Slot.unset).toArray = ls at hl ⊢
  have hl : lv_has ls 1 [(0, .ref x)] := hl
  obtain ⟨h0, mo, ⟨hxs, hm⟩ | ⟨hxs, ed, f9, hm, hm2, hf9⟩⟩ := hal
  · refine lv_aload_n hx hb d_AL_isEmpty_0 rfl (lv_at hl 0 rfl) ?_
    obtain ⟨qz1, hz1⟩ := List.getElem?_of_mem (List.mem_append_right [] hm)
    refine va_get (D := (dC, dI)) (ci := 14) (v := .int 0) (C := R_AL) (T := T_AL) (N := 3) hx hb htb in_AL hown hK hP qz1 hz1 rfl 1 (by decide) (htb _ m_88) (fun _ h9 => h9) rfl d_AL_isEmpty_1 ?_
    refine lv_if_ne (tgt := 11) hx hb d_AL_isEmpty_4 rfl (fun h9 => absurd (rfl) h9) (fun _ => ?_)
    refine lv_iconst (v := 1) hx hb d_AL_isEmpty_7 (by decide) ?_
    refine lv_goto (tgt := 12) hx hb d_AL_isEmpty_8 rfl ?_
    exact W.zret (v := 1) hx hb hr (by decide) (fun t ht hW => ⟨1, rfl, by rw [hxs]; rfl, ht⟩) (fun q h => absurd h List.not_mem_nil) d_AL_isEmpty_12
  · refine lv_aload_n hx hb d_AL_isEmpty_0 rfl (lv_at hl 0 rfl) ?_
    obtain ⟨qz1, hz1⟩ := List.getElem?_of_mem (List.mem_append_right [] hm)
    refine va_get (D := (dC, dI)) (ci := 14) (v := .int (nI xs.length)) (C := R_AL) (T := T_AL) (N := 3) hx hb htb in_AL hown hK hP qz1 hz1 rfl 1 (by decide) (htb _ m_88) (fun _ h9 => h9) rfl d_AL_isEmpty_1 ?_
    refine lv_if_ne (tgt := 11) hx hb d_AL_isEmpty_4 rfl (fun _ => ?_) (fun h9 => absurd h9 (fun h => hxs (List.length_eq_zero_iff.mp ((nI_eq (by omega) (by decide)).mp h))))
    refine lv_iconst (v := 0) hx hb d_AL_isEmpty_11 (by decide) ?_
    exact W.zret (v := 0) hx hb hr (by decide) (fun t ht hW => ⟨0, rfl, by rw [decide_eq_false hxs]; rfl, ht⟩) (fun q h => absurd h List.not_mem_nil) d_AL_isEmpty_12
set_option maxHeartbeats 1000000 in
set_option maxRecDepth 100000 in
theorem z_AL_elementData (l : Launch) (dC : Nat → ClassId) (dI : Nat → Nat → Nat) (x : Nat) (xs : List Nat) (cO : ClassId) (em : Nat) (i : Nat) (tl : va_W) (hal : ALz cO em tl x xs) (hi : i < xs.length) : Met l y_AL_elementData ws_AL_elementData ({ frames := 0, cells := 0, slots := 0, locals := 0 }) (va_Pc [.ref x, .int (nI i)] (fun U => va_P (dC, dI) vwCl ([] ++ tl) U.heap ∧ va_K (dC, dI) vwCl [(cO, .object "java/lang/Object")] U)) (va_Sq (fun (r : Option Nat) => r = some (xs.getD i 0))) 0 0 (fun _ => False) := by
  refine Met.ofW (cc := c_AL_elementData) (maxL := 2) (ret := (some (.object "java/lang/Object"))) (by decide) rfl ?_
  intro p e s m args below meth c s₁ B hml hv
  obtain ⟨rfl, hP, hK⟩ := hv
  have hx := B.exec
  have hb := B.bytes
  have hr := B.returns
  have hts := atoms_spec (ws := ws_AL_elementData) B.pre
  have htb := fun w (h : w ∈ TBL) => hts w (List.mem_cons_of_mem _ h)
  have hown : s.vm.findClass R_AL = some m.cls := findClass_of_methodNamed B.named
  have hlocks := B.notSynchronized
  have hl := lv_entry ([.ref x, .int (nI i)]) (n := 2) (Nat.le_of_ble_eq_true rfl)
  rw [lg_entry_eq]
  generalize (lg_sl ([.ref x, .int (nI i)]) ++ List.replicate (2 - (lg_sl ([.ref x, .int (nI i)])).length) Slot.unset).toArray = ls at hl ⊢
  have hl : lv_has ls 2 [(0, .ref x), (1, .int (nI i))] := hl
  obtain ⟨h0, mo, ⟨hxs, hm⟩ | ⟨hxs, ed, f9, hm, hm2, hf9⟩⟩ := hal
  · rw [hxs] at hi; exact absurd hi (Nat.not_lt_zero _)
  · refine lv_aload_n hx hb d_AL_elementData_0 rfl (lv_at hl 0 rfl) ?_
    obtain ⟨qz1, hz1⟩ := List.getElem?_of_mem (List.mem_append_right [] hm)
    refine va_get (D := (dC, dI)) (ci := 14) (v := .ref ed) (C := R_AL) (T := T_AL) (N := 3) hx hb htb in_AL hown hK hP qz1 hz1 rfl 0 (by decide) (htb _ m_87) (fun _ h9 => h9) rfl d_AL_elementData_1 ?_
    refine lv_iload_n hx hb d_AL_elementData_4 rfl (lv_at hl 1 rfl) ?_
    obtain ⟨qz2, hz2⟩ := List.getElem?_of_mem (List.mem_append_right [] hm2)
    have hcp : xs.length ≤ acap xs.length ∧ acap xs.length ≤ 163 := ac_ge _ (by omega)
    refine va_aldq hx hb hK hP qz2 0 hz2 rfl (vp_in_nI (by omega) (by omega)) d_AL_elementData_5 ?_
    refine W.eq (congrArg (fun z99 => F0 m 6 ls (va_rf z99 :: [])) (by rw [nI_clamp (by omega)]; exact hf9 i hi : f9 (nI i).toNatClampNeg = some (xs.getD i 0))) ?_
    exact W.aret (v := .ref (xs.getD i 0)) hx hb hr (Or.inl ⟨_, rfl⟩) (Or.inr ⟨_, rfl⟩) (fun t ht hW => ⟨(some (xs.getD i 0)), rfl, rfl, ht⟩) (fun q h => absurd h List.not_mem_nil) d_AL_elementData_6
set_option maxHeartbeats 1000000 in
set_option maxRecDepth 100000 in
/-- get(i) of a frozen list -/
theorem z_AL_get (l : Launch) (dC : Nat → ClassId) (dI : Nat → Nat → Nat) (x : Nat) (xs : List Nat) (cO : ClassId) (em : Nat) (i : Nat) (tl : va_W) (hal : ALz cO em tl x xs) (hi : i < xs.length) : Met l y_AL_get ws_AL_get ({ frames := 2, cells := 0, slots := 0, locals := 43 }) (va_Pc [.ref x, .int (nI i)] (fun U => va_P (dC, dI) vwCl ([] ++ tl) U.heap ∧ va_K (dC, dI) vwCl [(cO, .object "java/lang/Object")] U)) (va_Sq (fun (r : Option Nat) => r = some (xs.getD i 0))) 0 0 (fun _ => False) := by
  refine Met.ofW (cc := c_AL_get) (maxL := 2) (ret := (some (.object "java/lang/Object"))) (by decide) rfl ?_
  intro p e s m args below meth c s₁ B hml hv
  obtain ⟨rfl, hP, hK⟩ := hv
  have hx := B.exec
  have hb := B.bytes
  have hr := B.returns
  have hts := atoms_spec (ws := ws_AL_get) B.pre
  have htb := fun w (h : w ∈ TBL) => hts w (List.mem_cons_of_mem _ h)
  have hown : s.vm.findClass R_AL = some m.cls := findClass_of_methodNamed B.named
  have hlocks := B.notSynchronized
  have hl := lv_entry ([.ref x, .int (nI i)]) (n := 2) (Nat.le_of_ble_eq_true rfl)
  rw [lg_entry_eq]
  generalize (lg_sl ([.ref x, .int (nI i)]) ++ List.replicate (2 - (lg_sl ([.ref x, .int (nI i)])).length) Slot.unset).toArray = ls at hl ⊢
  have hl : lv_has ls 2 [(0, .ref x), (1, .int (nI i))] := hl
  obtain ⟨h0, mo, ⟨hxs, hm⟩ | ⟨hxs, ed, f9, hm, hm2, hf9⟩⟩ := (id hal : ALz cO em tl x xs)
  · rw [hxs] at hi; exact absurd hi (Nat.not_lt_zero _)
  · refine lv_iload_n hx hb d_AL_get_0 rfl (lv_at hl 1 rfl) ?_
    refine lv_aload_n hx hb d_AL_get_1 rfl (lv_at hl 0 rfl) ?_
    obtain ⟨qz1, hz1⟩ := List.getElem?_of_mem (List.mem_append_right [] hm)
    refine va_get (D := (dC, dI)) (ci := 14) (v := .int (nI xs.length)) (C := R_AL) (T := T_AL) (N := 3) hx hb htb in_AL hown hK hP qz1 hz1 rfl 1 (by decide) (htb _ m_88) (fun _ h9 => h9) rfl d_AL_get_2 ?_
    have hPc : va_P (dC, dI) vwCl [] _ := hP.sub (ws' := []) [] rfl
    have hKc := hK.sub (tys' := []) [] rfl
    refine vp_callSi (W.runS (As := [.int (nI i), .int (nI xs.length)]) (rest := []) ⟨hx, hb, hml, hown, htb⟩ (q_OB_checkIndex l dC dI i xs.length hi (by omega)) (va_cwS 2 htb (g_S (fun _ h => h) m_493 m_491 m_492 m_19) rfl rfl rfl (by decide +kernel) ⟨Nat.le_of_ble_eq_true rfl, Nat.le_of_ble_eq_true rfl⟩) ⟨fun a U g mk q => by obtain ⟨q0, qP, qK⟩ := q; exact ⟨q0, qP, va_K.moved (u := U) (U := U.calling g mk a) (Vm.Alike.refl U.vm) qK⟩, fun U hU hW => ⟨rfl, by rw [hU]; exact hPc, va_K.moved hW.alike hKc⟩⟩ rfl rfl hl.1 rfl (lv_room (Nat.le_of_ble_eq_true rfl)) d_AL_get_5 ⟨Nat.le_of_ble_eq_true rfl, Nat.le_of_ble_eq_true rfl⟩) (fun r2 hw3 => ?_)
    have hw3 : r2 = nI i := hw3
    refine lv_pop hx hb d_AL_get_8 rfl ?_
    refine lv_aload_n hx hb d_AL_get_9 rfl (lv_at hl 0 rfl) ?_
    refine lv_iload_n hx hb d_AL_get_10 rfl (lv_at hl 1 rfl) ?_
    have hPc : va_P (dC, dI) vwCl ([] ++ tl) _ := zz_tlP (pre := []) (tl := tl) hP
    have hKc := hK.sub (tys' := [(cO, .object "java/lang/Object")]) [0] rfl
    refine va_csq (W.runV (As := [.int (nI i)]) (rest := []) ⟨hx, hb, hml, hown, htb⟩ (z_AL_elementData l dC dI x xs cO em i tl hal hi) (cwV 1 htb (g_V (fun _ h => h) m_498 m_495 m_496 m_497 m_8) rfl rfl rfl (by decide +kernel) ⟨Nat.le_of_ble_eq_true rfl, Nat.le_of_ble_eq_true rfl⟩) ⟨fun a U g mk q => by obtain ⟨q0, qP, qK⟩ := q; exact ⟨q0, qP, va_K.moved (u := U) (U := U.calling g mk a) (Vm.Alike.refl U.vm) qK⟩, zz_recv hK hP (ci := 14) rfl (List.mem_append_right _ hm), fun U hU hW => ⟨rfl, by rw [hU]; exact hPc, va_K.moved hW.alike hKc⟩⟩ rfl rfl hl.1 rfl (lv_room (Nat.le_of_ble_eq_true rfl)) d_AL_get_11 ⟨Nat.le_of_ble_eq_true rfl, Nat.le_of_ble_eq_true rfl⟩) (fun r4 hw5 => ?_)
    have hw5 : r4 = some (xs.getD i 0) := hw5
    exact W.aret (v := va_rf r4) hx hb hr (Or.inl ⟨_, rfl⟩) (by cases (r4) with | none => exact Or.inl rfl | some a => exact Or.inr ⟨_, rfl⟩) (fun t ht hW => ⟨r4, rfl, hw5, ht⟩) (fun q h => absurd h List.not_mem_nil) d_AL_get_14
set_option maxHeartbeats 1000000 in
set_option maxRecDepth 100000 in
/-- Value(kind, parts, name) -/
theorem k_VA_init2 (l : Launch) (dC : Nat → ClassId) (dI : Nat → Nat → Nat) (sz : Nat) (x : Nat) (kd : Int32) (pa : Nat) (nm : Nat) (xs : List Nat) (ns : List (List Nat)) (rs : List (List Row)) (d : Nat) (cB : ClassId) (cO : ClassId) (em : Nat) (aK : Nat → Nat) (aV : Nat → Nat) (fz : va_W) (hal : ALz cO em fz pa xs) (hrs : rs.length = xs.length) (hvl : ∀ i, i < xs.length → VT cB cO em aK d fz (xs.getD i 0) (ns.getD i []) (rs.getD i [])) (hd : d < 100) : Met l y_VA_init2 ws_VA_init2 ({ frames := 3, cells := 0, slots := 0, locals := 64 }) (va_Pc [.ref x, .int kd, .ref pa, .ref nm] (fun U => U.heap.size = sz ∧ va_P (dC, dI) vwCl ([(x, .inr (3, [.int 0, .null, .long 0, .null, .null, .int 0, .int 0]))] ++ fz) U.heap ∧ va_K (dC, dI) vwCl [(cO, .object "java/lang/Object")] U ∧ va_D (fun _ => True) ([(x, .inr (3, [.int 0, .null, .long 0, .null, .null, .int 0, .int 0]))] ++ fz) ∧ EX em aK aV (va_A ([(x, .inr (3, [.int 0, .null, .long 0, .null, .null, .int 0, .int 0]))] ++ fz) sz) U U.heap)) (va_Qv (fun (u : Unit) => True) (fun u t => va_P (dC, dI) vwCl ([(x, .inr (3, [.int kd, .ref (aK 0), .long 0, .ref nm, .ref pa, .int (nI (dmx rs + 1)), .int (nI (1 + slen rs))]))] ++ fz) t.heap ∧ va_K (dC, dI) vwCl [(cO, .object "java/lang/Object")] t ∧ va_D (va_A ([(x, .inr (3, [.int 0, .null, .long 0, .null, .null, .int 0, .int 0]))] ++ fz) sz) ([(x, .inr (3, [.int kd, .ref (aK 0), .long 0, .ref nm, .ref pa, .int (nI (dmx rs + 1)), .int (nI (1 + slen rs))]))] ++ fz)) (va_A ([(x, .inr (3, [.int 0, .null, .long 0, .null, .null, .int 0, .int 0]))] ++ fz) sz)) 0 0 (va_A ([(x, .inr (3, [.int 0, .null, .long 0, .null, .null, .int 0, .int 0]))] ++ fz) sz) := by
  refine Met.ofW (cc := c_VA_init2) (maxL := 7) (ret := none) (by decide) rfl ?_
  intro p e s m args below meth c s₁ B hml hv
  obtain ⟨hargs, hsz, hP, hK, hD0, hE⟩ := hv
  rw [show entryFrame m args 7 = entryFrame m ([.ref x, .int kd, .ref pa, .ref nm]).toArray 7 by rw [hargs]]
  have hx := B.exec
  have hb := B.bytes
  have hr := B.returns
  have hts := atoms_spec (ws := ws_VA_init2) B.pre
  have htb := fun w (h : w ∈ TBL) => hts w (List.mem_cons_of_mem _ h)
  have hown : s.vm.findClass R_VA = some m.cls := findClass_of_methodNamed B.named
  have hlocks := B.notSynchronized
  have hin : meth.name = "<init>" := (name_of_methodNamed B.named B.method).1
  subst hsz
  have hD := hD0.self (sz := s.heap.size)
  generalize hAe : va_A ([(x, .inr (3, [.int 0, .null, .long 0, .null, .null, .int 0, .int 0]))] ++ fz) s.heap.size = A at hD hE ⊢
  have hA : ∀ q : Nat, s.heap.size ≤ q → A q := fun q h => by rw [← hAe]; exact Or.inr h
  have hS : va_S A s.heap s.heap [] := va_S.rf
  have hP : va_P (dC, dI) vwCl ([(x, .inr (3, [.int 0, .null, .long 0, .null, .null, .int 0, .int 0]))] ++ fz) s.heap := hP
  have hl := lv_entry ([.ref x, .int kd, .ref pa, .ref nm]) (n := 7) (Nat.le_of_ble_eq_true rfl)
  rw [lg_entry_eq]
  generalize (lg_sl ([.ref x, .int kd, .ref pa, .ref nm]) ++ List.replicate (7 - (lg_sl ([.ref x, .int kd, .ref pa, .ref nm])).length) Slot.unset).toArray = ls at hl ⊢
  have hl : lv_has ls 7 [(0, .ref x), (1, .int kd), (2, .ref pa), (3, .ref nm)] := hl
  refine zz_nQ (fun Q hQ => ?_)
  have h160 := hal.1
  refine lv_aload_n hx hb d_VA_init2_0 rfl (lv_at hl 0 rfl) ?_
  refine W.objInit hx hb hown (htb _ m_374) (htb _ m_35) (htb _ m_36) rfl (by rw [hml]; exact hl.1) rfl d_VA_init2_1 (Nat.le_of_ble_eq_true rfl) (Nat.le_of_ble_eq_true rfl) ?_
  refine W.eq (g2 := F0 m 4 ls []) rfl ?_
  refine lv_aload_n hx hb d_VA_init2_4 rfl (lv_at hl 0 rfl) ?_
  refine lv_iload_n hx hb d_VA_init2_5 rfl (lv_at hl 1 rfl) ?_
  refine va_putF (D := (dC, dI)) (ci := 3) (v := .int kd) (ty := .int) (C := R_VA) (T := T_VA) (N := 7) hx hb htb in_VA ty_VA ty_VA_ok nm_VA hown hK hP hD hS 0 rfl rfl 0 (by decide) (htb _ m_378) (fun _ h9 => h9) rfl hin rfl (by decide +kernel) rfl rfl (Nat.le_of_ble_eq_true rfl) d_VA_init2_6 (fun H locs hP hD hS => ?_)
  have hP : va_P (dC, dI) vwCl ([(x, .inr (3, [.int kd, .null, .long 0, .null, .null, .int 0, .int 0]))] ++ fz) H := hP
  have hD : va_D A ([(x, .inr (3, [.int kd, .null, .long 0, .null, .null, .int 0, .int 0]))] ++ fz) := hD
  refine lv_aload_n hx hb d_VA_init2_9 rfl (lv_at hl 0 rfl) ?_
  refine va_ldcS hx hb hown (lr_0 hE) d_VA_init2_10 ?_
  refine va_putF (D := (dC, dI)) (ci := 3) (v := .ref (aK 0)) (ty := (.object "java/lang/String")) (C := R_VA) (T := T_VA) (N := 7) hx hb htb in_VA ty_VA ty_VA_ok nm_VA hown hK hP hD hS 0 rfl rfl 1 (by decide) (htb _ m_384) (fun _ h9 => h9) rfl hin rfl (by decide +kernel) rfl rfl (Nat.le_of_ble_eq_true rfl) d_VA_init2_12 (fun H locs hP hD hS => ?_)
  have hP : va_P (dC, dI) vwCl ([(x, .inr (3, [.int kd, .ref (aK 0), .long 0, .null, .null, .int 0, .int 0]))] ++ fz) H := hP
  have hD : va_D A ([(x, .inr (3, [.int kd, .ref (aK 0), .long 0, .null, .null, .int 0, .int 0]))] ++ fz) := hD
  refine lv_aload_n hx hb d_VA_init2_15 rfl (lv_at hl 0 rfl) ?_
  refine lv_lconst (v := 0) hx hb d_VA_init2_16 (by decide) ?_
  refine va_putF (D := (dC, dI)) (ci := 3) (v := .long 0) (ty := .long) (C := R_VA) (T := T_VA) (N := 7) hx hb htb in_VA ty_VA ty_VA_ok nm_VA hown hK hP hD hS 0 rfl rfl 2 (by decide) (htb _ m_388) (fun _ h9 => h9) rfl hin rfl (by decide +kernel) rfl rfl (Nat.le_of_ble_eq_true rfl) d_VA_init2_17 (fun H locs hP hD hS => ?_)
  have hP : va_P (dC, dI) vwCl ([(x, .inr (3, [.int kd, .ref (aK 0), .long 0, .null, .null, .int 0, .int 0]))] ++ fz) H := hP
  have hD : va_D A ([(x, .inr (3, [.int kd, .ref (aK 0), .long 0, .null, .null, .int 0, .int 0]))] ++ fz) := hD
  refine lv_aload_n hx hb d_VA_init2_20 rfl (lv_at hl 0 rfl) ?_
  refine lv_aload_n hx hb d_VA_init2_21 rfl (lv_at hl 3 rfl) ?_
  refine va_putF (D := (dC, dI)) (ci := 3) (v := .ref nm) (ty := (.object "java/lang/String")) (C := R_VA) (T := T_VA) (N := 7) hx hb htb in_VA ty_VA ty_VA_ok nm_VA hown hK hP hD hS 0 rfl rfl 3 (by decide) (htb _ m_389) (fun _ h9 => h9) rfl hin rfl (by decide +kernel) rfl rfl (Nat.le_of_ble_eq_true rfl) d_VA_init2_22 (fun H locs hP hD hS => ?_)
  have hP : va_P (dC, dI) vwCl ([(x, .inr (3, [.int kd, .ref (aK 0), .long 0, .ref nm, .null, .int 0, .int 0]))] ++ fz) H := hP
  have hD : va_D A ([(x, .inr (3, [.int kd, .ref (aK 0), .long 0, .ref nm, .null, .int 0, .int 0]))] ++ fz) := hD
  refine lv_aload_n hx hb d_VA_init2_25 rfl (lv_at hl 0 rfl) ?_
  refine lv_aload_n hx hb d_VA_init2_26 rfl (lv_at hl 2 rfl) ?_
  refine va_putF (D := (dC, dI)) (ci := 3) (v := .ref pa) (ty := (.object "java/util/ArrayList")) (C := R_VA) (T := T_VA) (N := 7) hx hb htb in_VA ty_VA ty_VA_ok nm_VA hown hK hP hD hS 0 rfl rfl 4 (by decide) (htb _ m_393) (fun _ h9 => h9) rfl hin rfl (by decide +kernel) rfl rfl (Nat.le_of_ble_eq_true rfl) d_VA_init2_27 (fun H locs hP hD hS => ?_)
  have hP : va_P (dC, dI) vwCl ([(x, .inr (3, [.int kd, .ref (aK 0), .long 0, .ref nm, .ref pa, .int 0, .int 0]))] ++ fz) H := hP
  have hD : va_D A ([(x, .inr (3, [.int kd, .ref (aK 0), .long 0, .ref nm, .ref pa, .int 0, .int 0]))] ++ fz) := hD
  refine lv_iconst (v := 0) hx hb d_VA_init2_30 (by decide) ?_
  refine lv_istore hx hb d_VA_init2_31 hl (by decide) rfl (fun ls hl => ?_)
  have hl : lv_has ls 7 [(4, .int 0), (0, .ref x), (1, .int kd), (2, .ref pa), (3, .ref nm)] := hl
  refine lv_iconst (v := 1) hx hb d_VA_init2_33 (by decide) ?_
  refine lv_istore hx hb d_VA_init2_34 hl (by decide) rfl (fun ls hl => ?_)
  have hl : lv_has ls 7 [(5, .int 1), (4, .int 0), (0, .ref x), (1, .int kd), (2, .ref pa), (3, .ref nm)] := hl
  refine lv_iconst (v := 0) hx hb d_VA_init2_36 (by decide) ?_
  refine lv_istore hx hb d_VA_init2_37 hl (by decide) rfl (fun ls hl => ?_)
  have hl : lv_has ls 7 [(6, .int 0), (5, .int 1), (4, .int 0), (0, .ref x), (1, .int kd), (2, .ref pa), (3, .ref nm)] := hl
  have hloop : ∀ (k9 : Nat) (i : Nat) (H : Heap) (locs : List Loc) (ls : Array Slot), xs.length - i = k9 → (i ≤ xs.length) → lv_has ls 7 [(6, .int (nI i)), (5, .int (nI (1 + slen (rs.take i)))), (4, .int (nI (dmx (rs.take i)))), (0, .ref x), (2, .ref pa)] → va_P (dC, dI) vwCl ([(x, .inr (3, [.int kd, .ref (aK 0), .long 0, .ref nm, .ref pa, .int 0, .int 0]))] ++ fz) H → va_D A ([(x, .inr (3, [.int kd, .ref (aK 0), .long 0, .ref nm, .ref pa, .int 0, .int 0]))] ++ fz) → va_S A s.heap H locs → W p l e (headSpec ws_VA_init2 ({ frames := 3, cells := 0, slots := 0, locals := 64 })).room s m args below meth c H locs 0 0 Q (F0 m 39 ls []) := by
    intro k9
    induction k9 using Nat.strongRecOn with
    | ind k9 ih =>
      intro i H locs ls hk9 hi hl hP hD hS
      refine lv_iload hx hb d_VA_init2_39 (lv_at hl 0 rfl) ?_
      refine lv_aload_n hx hb d_VA_init2_41 rfl (lv_at hl 4 rfl) ?_
      have hPc : va_P (dC, dI) vwCl ([] ++ fz) _ := zz_tlP (pre := [(x, .inr (3, [.int kd, .ref (aK 0), .long 0, .ref nm, .ref pa, .int 0, .int 0]))]) (tl := fz) hP
      have hKc := hK.sub (tys' := []) [] rfl
      refine vp_callSi (W.runV (As := []) (rest := [.int (nI i)]) ⟨hx, hb, hml, hown, htb⟩ (z_AL_size l dC dI pa xs cO em fz hal) (cwV 0 htb (g_V (fun _ h => h) m_486 m_483 m_484 m_485 m_8) rfl rfl rfl (by decide +kernel) ⟨Nat.le_of_ble_eq_true rfl, Nat.le_of_ble_eq_true rfl⟩) ⟨fun a U g mk q => by obtain ⟨q0, qP, qK⟩ := q; exact ⟨q0, qP, va_K.moved (u := U) (U := U.calling g mk a) (Vm.Alike.refl U.vm) qK⟩, (hal).recv hK hP (fun q hq => List.mem_append_right _ hq), fun U hU hW => ⟨rfl, by rw [hU]; exact hPc, va_K.moved hW.alike hKc⟩⟩ rfl rfl hl.1 rfl (lv_room (Nat.le_of_ble_eq_true rfl)) d_VA_init2_42 ⟨Nat.le_of_ble_eq_true rfl, Nat.le_of_ble_eq_true rfl⟩) (fun r1 hw2 => ?_)
      have hw2 : r1 = nI xs.length := hw2
      obtain rfl := hw2
      refine lv_icmp_ge (tgt := 90) hx hb d_VA_init2_45 rfl (fun h1 => ?_) (fun h1 => ?_)
      · have h1 : xs.length ≤ i := (nI_leI (by omega) (by omega)).mp h1
        have hti : rs.take i = rs := List.take_of_length_le (by omega)
        rw [hti] at hl
        have hl : lv_has ls 7 [(6, .int (nI i)), (5, .int (nI (1 + slen rs))), (4, .int (nI (dmx rs))), (0, .ref x), (2, .ref pa)] := hl
        refine lv_aload_n hx hb d_VA_init2_90 rfl (lv_at hl 3 rfl) ?_
        refine lv_iload hx hb d_VA_init2_91 (lv_at hl 2 rfl) ?_
        refine lv_iconst (v := 1) hx hb d_VA_init2_93 (by decide) ?_
        refine lv_iadd hx hb d_VA_init2_94 ?_
        refine W.eq (congrArg (fun z => F0 m 95 ls (.int z :: [.ref x])) (nI_1 _ : ((nI (dmx rs)) + 1) = nI (dmx rs + 1))) ?_
        refine va_putF (D := (dC, dI)) (ci := 3) (v := .int (nI (dmx rs + 1))) (ty := .int) (C := R_VA) (T := T_VA) (N := 7) hx hb htb in_VA ty_VA ty_VA_ok nm_VA hown hK hP hD hS 0 rfl rfl 5 (by decide) (htb _ m_400) (fun _ h9 => h9) rfl hin rfl (by decide +kernel) rfl rfl (Nat.le_of_ble_eq_true rfl) d_VA_init2_95 (fun H locs hP hD hS => ?_)
        have hP : va_P (dC, dI) vwCl ([(x, .inr (3, [.int kd, .ref (aK 0), .long 0, .ref nm, .ref pa, .int (nI (dmx rs + 1)), .int 0]))] ++ fz) H := hP
        have hD : va_D A ([(x, .inr (3, [.int kd, .ref (aK 0), .long 0, .ref nm, .ref pa, .int (nI (dmx rs + 1)), .int 0]))] ++ fz) := hD
        refine lv_aload_n hx hb d_VA_init2_98 rfl (lv_at hl 3 rfl) ?_
        refine lv_iload hx hb d_VA_init2_99 (lv_at hl 1 rfl) ?_
        refine va_putF (D := (dC, dI)) (ci := 3) (v := .int (nI (1 + slen rs))) (ty := .int) (C := R_VA) (T := T_VA) (N := 7) hx hb htb in_VA ty_VA ty_VA_ok nm_VA hown hK hP hD hS 0 rfl rfl 6 (by decide) (htb _ m_403) (fun _ h9 => h9) rfl hin rfl (by decide +kernel) rfl rfl (Nat.le_of_ble_eq_true rfl) d_VA_init2_101 (fun H locs hP hD hS => ?_)
        have hP : va_P (dC, dI) vwCl ([(x, .inr (3, [.int kd, .ref (aK 0), .long 0, .ref nm, .ref pa, .int (nI (dmx rs + 1)), .int (nI (1 + slen rs))]))] ++ fz) H := hP
        have hD : va_D A ([(x, .inr (3, [.int kd, .ref (aK 0), .long 0, .ref nm, .ref pa, .int (nI (dmx rs + 1)), .int (nI (1 + slen rs))]))] ++ fz) := hD
        have hP9 := zz_pickP (pre := [(x, .inr (3, [.int kd, .ref (aK 0), .long 0, .ref nm, .ref pa, .int (nI (dmx rs + 1)), .int (nI (1 + slen rs))]))]) (fz := fz) (wc := [(x, .inr (3, [.int kd, .ref (aK 0), .long 0, .ref nm, .ref pa, .int (nI (dmx rs + 1)), .int (nI (1 + slen rs))]))]) hP [0] rfl
        have hD9 := zz_pickD (pre := [(x, .inr (3, [.int kd, .ref (aK 0), .long 0, .ref nm, .ref pa, .int (nI (dmx rs + 1)), .int (nI (1 + slen rs))]))]) (fz := fz) (wc := [(x, .inr (3, [.int kd, .ref (aK 0), .long 0, .ref nm, .ref pa, .int (nI (dmx rs + 1)), .int (nI (1 + slen rs))]))]) hD [0] (by decide) rfl
        have hK9 := hK.sub (tys' := [(cO, .object "java/lang/Object")]) [0] rfl
        rw [hQ]
        refine W.widen (k := 0) (n := 0) (Nat.le_of_ble_eq_true rfl) (Nat.le_of_ble_eq_true rfl) ?_
        exact W.vret hx hb hr (fun t ht hW => ⟨⟨(), rfl, trivial, ⟨by rw [ht]; exact hP9, va_K.moved hW.alike hK9, hD9⟩⟩, hS.F ht⟩) hS.2.2 d_VA_init2_104
      · have h1 : i < xs.length := Nat.not_le.mp (fun h => h1 ((nI_leI (by omega) (by omega)).mpr h))
        have hvt := hvl i h1
        have hdl := hvt.dle
        have hmx : dmx (rs.take i) ≤ d := dmx_le _ (fun r hr => of_getD (z := []) (P := fun r => dpt r ≤ d) (fun j hj => (hvl j (by omega)).dle) r (List.mem_of_mem_take hr))
        obtain ⟨d0, kd0, tx0, nu0, nm0, pa0, dp0, cn0, hm0, hdp0, hcn0⟩ := hvt.cell
        rw [hdp0, hcn0] at hm0
        refine lv_iload hx hb d_VA_init2_48 (lv_at hl 2 rfl) ?_
        refine lv_aload_n hx hb d_VA_init2_50 rfl (lv_at hl 4 rfl) ?_
        refine lv_iload hx hb d_VA_init2_51 (lv_at hl 0 rfl) ?_
        have hPc : va_P (dC, dI) vwCl ([] ++ fz) _ := zz_tlP (pre := [(x, .inr (3, [.int kd, .ref (aK 0), .long 0, .ref nm, .ref pa, .int 0, .int 0]))]) (tl := fz) hP
        have hKc := hK.sub (tys' := [(cO, .object "java/lang/Object")]) [0] rfl
        refine va_csq (W.runV (As := [.int (nI i)]) (rest := [.int (nI (dmx (rs.take i)))]) ⟨hx, hb, hml, hown, htb⟩ (z_AL_get l dC dI pa xs cO em i fz hal h1) (cwV 1 htb (g_V (fun _ h => h) m_490 m_487 m_488 m_489 m_8) rfl rfl rfl (by decide +kernel) ⟨Nat.le_of_ble_eq_true rfl, Nat.le_of_ble_eq_true rfl⟩) ⟨fun a U g mk q => by obtain ⟨q0, qP, qK⟩ := q; exact ⟨q0, qP, va_K.moved (u := U) (U := U.calling g mk a) (Vm.Alike.refl U.vm) qK⟩, (hal).recv hK hP (fun q hq => List.mem_append_right _ hq), fun U hU hW => ⟨rfl, by rw [hU]; exact hPc, va_K.moved hW.alike hKc⟩⟩ rfl rfl hl.1 rfl (lv_room (Nat.le_of_ble_eq_true rfl)) d_VA_init2_53 ⟨Nat.le_of_ble_eq_true rfl, Nat.le_of_ble_eq_true rfl⟩) (fun r3 hw4 => ?_)
        have hw4 : r3 = some (xs.getD i 0) := hw4
        obtain rfl := hw4
        refine W.eq (g2 := F0 m 56 ls [.ref (xs.getD i 0), .int (nI (dmx (rs.take i)))]) rfl ?_
        refine va_castY (C := "PatchStore$Value") hx hb hown (htb _ m_499) (nw_14 hE) (zz_recv hK hP (ci := 3) rfl (List.mem_append_right _ hm0)) d_VA_init2_56 ?_
        obtain ⟨qz5, hz5⟩ := List.getElem?_of_mem (List.mem_append_right [(x, .inr (3, [.int kd, .ref (aK 0), .long 0, .ref nm, .ref pa, .int 0, .int 0]))] hm0)
        refine va_get (D := (dC, dI)) (ci := 3) (v := .int (nI (dpt (rs.getD i [])))) (C := R_VA) (T := T_VA) (N := 7) hx hb htb in_VA hown hK hP qz5 hz5 rfl 5 (by decide) (htb _ m_400) (fun _ h9 => h9) rfl d_VA_init2_59 ?_
        refine va_mmax hx hb (hml.trans hl.1.symm) hown (htb _ m_500) (htb _ m_212) (htb _ m_13) (htb _ m_213) (Nat.le_of_ble_eq_true rfl) (Nat.le_of_ble_eq_true rfl) (Nat.le_of_ble_eq_true rfl) (Nat.le_of_ble_eq_true rfl) d_VA_init2_62 ?_
        refine W.eq (congrArg (fun z => F0 m 65 ls (.int z :: [])) (mm_max (by omega) (by omega) : (if (nI (dmx (rs.take i))) < (nI (dpt (rs.getD i []))) then (nI (dpt (rs.getD i []))) else (nI (dmx (rs.take i)))) = nI (Nat.max (dmx (rs.take i)) (dpt (rs.getD i []))))) ?_
        refine lv_istore hx hb d_VA_init2_65 hl (by decide) rfl (fun ls hl => ?_)
        have hl : lv_has ls 7 [(4, .int (nI (Nat.max (dmx (rs.take i)) (dpt (rs.getD i []))))), (6, .int (nI i)), (5, .int (nI (1 + slen (rs.take i)))), (0, .ref x), (2, .ref pa)] := hl
        refine lv_iload hx hb d_VA_init2_67 (lv_at hl 2 rfl) ?_
        refine lv_aload_n hx hb d_VA_init2_69 rfl (lv_at hl 4 rfl) ?_
        refine lv_iload hx hb d_VA_init2_70 (lv_at hl 1 rfl) ?_
        have hPc : va_P (dC, dI) vwCl ([] ++ fz) _ := zz_tlP (pre := [(x, .inr (3, [.int kd, .ref (aK 0), .long 0, .ref nm, .ref pa, .int 0, .int 0]))]) (tl := fz) hP
        have hKc := hK.sub (tys' := [(cO, .object "java/lang/Object")]) [0] rfl
        refine va_csq (W.runV (As := [.int (nI i)]) (rest := [.int (nI (1 + slen (rs.take i)))]) ⟨hx, hb, hml, hown, htb⟩ (z_AL_get l dC dI pa xs cO em i fz hal h1) (cwV 1 htb (g_V (fun _ h => h) m_490 m_487 m_488 m_489 m_8) rfl rfl rfl (by decide +kernel) ⟨Nat.le_of_ble_eq_true rfl, Nat.le_of_ble_eq_true rfl⟩) ⟨fun a U g mk q => by obtain ⟨q0, qP, qK⟩ := q; exact ⟨q0, qP, va_K.moved (u := U) (U := U.calling g mk a) (Vm.Alike.refl U.vm) qK⟩, (hal).recv hK hP (fun q hq => List.mem_append_right _ hq), fun U hU hW => ⟨rfl, by rw [hU]; exact hPc, va_K.moved hW.alike hKc⟩⟩ rfl rfl hl.1 rfl (lv_room (Nat.le_of_ble_eq_true rfl)) d_VA_init2_72 ⟨Nat.le_of_ble_eq_true rfl, Nat.le_of_ble_eq_true rfl⟩) (fun r6 hw7 => ?_)
        have hw7 : r6 = some (xs.getD i 0) := hw7
        obtain rfl := hw7
        refine W.eq (g2 := F0 m 75 ls [.ref (xs.getD i 0), .int (nI (1 + slen (rs.take i)))]) rfl ?_
        refine va_castY (C := "PatchStore$Value") hx hb hown (htb _ m_499) (nw_14 hE) (zz_recv hK hP (ci := 3) rfl (List.mem_append_right _ hm0)) d_VA_init2_75 ?_
        obtain ⟨qz8, hz8⟩ := List.getElem?_of_mem (List.mem_append_right [(x, .inr (3, [.int kd, .ref (aK 0), .long 0, .ref nm, .ref pa, .int 0, .int 0]))] hm0)
        refine va_get (D := (dC, dI)) (ci := 3) (v := .int (nI (rs.getD i []).length)) (C := R_VA) (T := T_VA) (N := 7) hx hb htb in_VA hown hK hP qz8 hz8 rfl 6 (by decide) (htb _ m_403) (fun _ h9 => h9) rfl d_VA_init2_78 ?_
        refine lv_iadd hx hb d_VA_init2_81 ?_
        refine W.eq (congrArg (fun z => F0 m 82 ls (.int z :: [])) (nI_add _ _ : ((nI (1 + slen (rs.take i))) + (nI (rs.getD i []).length)) = nI (1 + slen (rs.take i) + (rs.getD i []).length))) ?_
        refine lv_istore hx hb d_VA_init2_82 hl (by decide) rfl (fun ls hl => ?_)
        have hl : lv_has ls 7 [(5, .int (nI (1 + slen (rs.take i) + (rs.getD i []).length))), (4, .int (nI (Nat.max (dmx (rs.take i)) (dpt (rs.getD i []))))), (6, .int (nI i)), (0, .ref x), (2, .ref pa)] := hl
        refine lv_iinc (k := 2) (v := ((nI i) + Int32.ofInt 1)) hx hb d_VA_init2_84 hl rfl rfl (by decide) rfl (fun ls hl => ?_)
        have hl : lv_has ls 7 [(6, .int ((nI i) + Int32.ofInt 1)), (5, .int (nI (1 + slen (rs.take i) + (rs.getD i []).length))), (4, .int (nI (Nat.max (dmx (rs.take i)) (dpt (rs.getD i []))))), (0, .ref x), (2, .ref pa)] := hl
        rw [show nI i + Int32.ofInt 1 = nI (i + 1) from nI_1 _] at hl
        refine lv_goto (tgt := 39) hx hb d_VA_init2_87 rfl ?_
        rw [show Nat.max (dmx (rs.take i)) (dpt (rs.getD i [])) = dmx (rs.take (i + 1)) by rw [take_step [] (by omega), dmx_app], show 1 + slen (rs.take i) + (rs.getD i []).length = 1 + slen (rs.take (i + 1)) by rw [take_step [] (by omega), slen_app, Nat.add_assoc]] at hl
        exact ih (xs.length - (i + 1)) (by omega) (i + 1) H locs ls rfl (by omega) (lv_sub hl [0, 1, 2, 3, 4] rfl) (zz_pickP (pre := [(x, .inr (3, [.int kd, .ref (aK 0), .long 0, .ref nm, .ref pa, .int 0, .int 0]))]) (fz := fz) (wc := [(x, .inr (3, [.int kd, .ref (aK 0), .long 0, .ref nm, .ref pa, .int 0, .int 0]))]) hP [0] rfl) (zz_pickD (pre := [(x, .inr (3, [.int kd, .ref (aK 0), .long 0, .ref nm, .ref pa, .int 0, .int 0]))]) (fz := fz) (wc := [(x, .inr (3, [.int kd, .ref (aK 0), .long 0, .ref nm, .ref pa, .int 0, .int 0]))]) hD [0] (by decide) rfl) hS
  exact hloop _ 0 _ _ ls rfl (Nat.zero_le _) (lv_sub hl [0, 1, 2, 3, 5] rfl) (zz_pickP (pre := [(x, .inr (3, [.int kd, .ref (aK 0), .long 0, .ref nm, .ref pa, .int 0, .int 0]))]) (fz := fz) (wc := [(x, .inr (3, [.int kd, .ref (aK 0), .long 0, .ref nm, .ref pa, .int 0, .int 0]))]) hP [0] rfl) (zz_pickD (pre := [(x, .inr (3, [.int kd, .ref (aK 0), .long 0, .ref nm, .ref pa, .int 0, .int 0]))]) (fz := fz) (wc := [(x, .inr (3, [.int kd, .ref (aK 0), .long 0, .ref nm, .ref pa, .int 0, .int 0]))]) hD [0] (by decide) rfl) hS
