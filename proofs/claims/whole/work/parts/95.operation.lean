/-! operations: kind (1 add, 2 remove, 3 replace, 4 move, 5 copy, 6 test), path, from, value -/
abbrev Opn := Nat × List (List Nat) × List (List Nat) × List Row
def vrb (tx : List Nat) : Nat := if tx = LTx.getD 6 [] then 1 else if tx = LTx.getD 7 [] then 2 else if tx = LTx.getD 8 [] then 3 else if tx = LTx.getD 9 [] then 4 else if tx = LTx.getD 10 [] then 5 else if tx = LTx.getD 11 [] then 6 else 0
theorem vrb_le (tx : List Nat) : vrb tx ≤ 6 := by
  unfold vrb
  repeat' split
  all_goals omega
def mbR (rows : List Row) (s : List Nat) : Option (List Row) := (mpl rows s).map (fun t => (ksR rows).getD t [])
def opK (o : Option (List Row)) : Nat := match o with
  | none => 0
  | some w => if hdK w = 4 then vrb (txR w) else 0
def opP (o : Option (List Row)) : Option (List (List Nat)) := match o with
  | none => none
  | some w => if hdK w = 4 then ptr (txR w) else none
def kI (k : Nat) : Int32 := if k = 0 then -1 else nI k
theorem opK_le (o : Option (List Row)) : opK o ≤ 6 := by
  unfold opK
  split
  · omega
  · split
    · exact vrb_le _
    · omega
/-- the operation that rows say, if any -/
def opR (rows : List Row) : Option Opn := (opP (mbR rows (LTx.getD 12 []))).bind (fun p =>
  if opK (mbR rows (LTx.getD 5 [])) = 0 then none
  else if opK (mbR rows (LTx.getD 5 [])) = 4 ∨ opK (mbR rows (LTx.getD 5 [])) = 5 then (opP (mbR rows (LTx.getD 13 []))).map (fun f => (opK (mbR rows (LTx.getD 5 [])), p, f, []))
  else if opK (mbR rows (LTx.getD 5 [])) = 2 then some (2, p, [], [])
  else (mbR rows (LTx.getD 14 [])).map (fun v => (opK (mbR rows (LTx.getD 5 [])), p, [], v)))
/-- the Operation at o -/
def OPz (cB cO : ClassId) (em : Nat) (aK : Nat → Nat) (tl : va_W) (op : Opn) (o : Nat) : Prop := ∃ pa, PTz cB aK tl op.2.1 pa ∧
  (((op.1 = 4 ∨ op.1 = 5) ∧ ∃ fa, (o, Sum.inr (4, [Value.int (nI op.1), Value.ref pa, Value.ref fa, Value.null])) ∈ tl ∧ PTz cB aK tl op.2.2.1 fa) ∨
  (op.1 = 2 ∧ (o, Sum.inr (4, [Value.int (nI op.1), Value.ref pa, Value.null, Value.null])) ∈ tl) ∨
  ((op.1 = 1 ∨ op.1 = 3 ∨ op.1 = 6) ∧ ∃ va nv dv, (o, Sum.inr (4, [Value.int (nI op.1), Value.ref pa, Value.null, Value.ref va])) ∈ tl ∧ VT cB cO em aK dv tl va nv op.2.2.2 ∧ dv ≤ 12))
theorem OPz.mono {cB cO : ClassId} {em : Nat} {aK : Nat → Nat} {tl tl' : va_W} {op : Opn} {o : Nat} (h : OPz cB cO em aK tl op o) (hs : ∀ q ∈ tl, q ∈ tl') : OPz cB cO em aK tl' op o := by
  obtain ⟨pa, h1, h2⟩ := h
  refine ⟨pa, h1.mono hs, ?_⟩
  rcases h2 with ⟨e, fa, h3, h4⟩ | ⟨e, h3⟩ | ⟨e, va, nv, dv, h3, h4, h5⟩
  · exact Or.inl ⟨e, fa, hs _ h3, h4.mono hs⟩
  · exact Or.inr (Or.inl ⟨e, hs _ h3⟩)
  · exact Or.inr (Or.inr ⟨e, va, nv, dv, hs _ h3, h4.mono hs, h5⟩)
theorem OPz.vin {cB cO : ClassId} {em : Nat} {aK : Nat → Nat} {tl : va_W} {op : Opn} {o : Nat} (h : OPz cB cO em aK tl op o) : Vin 4 tl o := by
  obtain ⟨pa, h1, ⟨e, fa, h3, h4⟩ | ⟨e, h3⟩ | ⟨e, va, nv, dv, h3, h4, h5⟩⟩ := h
  · exact ⟨_, h3⟩
  · exact ⟨_, h3⟩
  · exact ⟨_, h3⟩
set_option maxHeartbeats 1000000 in
set_option maxRecDepth 100000 in
/-- kindOf(null) -/
theorem k_OP_kindOfN (l : Launch) (dC : Nat → ClassId) (dI : Nat → Nat → Nat) (sz : Nat)  : Met l y_OP_kindOf ws_OP_kindOf ({ frames := 0, cells := 0, slots := 0, locals := 0 }) (va_Pc [.null] (fun U => U.heap.size = sz ∧ va_P (dC, dI) vwCl [] U.heap ∧ va_K (dC, dI) vwCl [] U ∧ va_D (fun _ => True) [])) (va_Qi (fun (r : Int32) (u : Unit) => r = -1) (fun u t => va_P (dC, dI) vwCl [] t.heap ∧ va_K (dC, dI) vwCl [] t ∧ va_D (va_A [] sz) []) (va_A [] sz)) 0 0 (va_A [] sz) := by
  refine Met.ofW (cc := c_OP_kindOf) (maxL := 1) (ret := (some .int)) (by decide) rfl ?_
  intro p e s m args below meth c s₁ B hml hv
  obtain ⟨rfl, hsz, hP, hK, hD0⟩ := hv
  have hx := B.exec
  have hb := B.bytes
  have hr := B.returns
  have hts := atoms_spec (ws := ws_OP_kindOf) B.pre
  have htb := fun w (h : w ∈ TBL) => hts w (List.mem_cons_of_mem _ h)
  have hown : s.vm.findClass R_OP = some m.cls := findClass_of_methodNamed B.named
  have hlocks := B.notSynchronized
  subst hsz
  have hD := hD0.self (sz := s.heap.size)
  generalize hAe : va_A [] s.heap.size = A at hD ⊢
  have hA : ∀ q : Nat, s.heap.size ≤ q → A q := fun q h => by rw [← hAe]; exact Or.inr h
  have hS : va_S A s.heap s.heap [] := va_S.rf
  have hP : va_P (dC, dI) vwCl [] s.heap := hP
  have hl := lv_entry ([.null]) (n := 1) (Nat.le_of_ble_eq_true rfl)
  rw [lg_entry_eq]
  generalize (lg_sl ([.null]) ++ List.replicate (1 - (lg_sl ([.null])).length) Slot.unset).toArray = ls at hl ⊢
  have hl : lv_has ls 1 [(0, .null)] := hl
  refine lv_aload_nN hx hb d_OP_kindOf_0 rfl (lv_at hl 0 rfl) ?_
  refine lv_ifnullN (tgt := 12) hx hb d_OP_kindOf_1 rfl ?_
  refine lv_iconst (v := (-1)) hx hb d_OP_kindOf_12 (by decide) ?_
  have hP9 := hP.sub (ws' := []) [] rfl
  have hD9 := hD.sub (ws' := []) [] (by decide) rfl
  have hK9 := hK.sub (tys' := []) [] rfl
  refine W.widen (k := 0) (n := 0) (Nat.le_of_ble_eq_true rfl) (Nat.le_of_ble_eq_true rfl) ?_
  exact W.iret (v := (-1)) hx hb hr (fun t ht hW => ⟨⟨(-1), (), rfl, rfl, ⟨by rw [ht]; exact hP9, va_K.moved hW.alike hK9, hD9⟩⟩, hS.F ht⟩) hS.2.2 d_OP_kindOf_13
set_option maxHeartbeats 1000000 in
set_option maxRecDepth 100000 in
/-- kindOf(op) -/
theorem k_OP_kindOf (l : Launch) (dC : Nat → ClassId) (dI : Nat → Nat → Nat) (sz : Nat) (a : Nat) (d : Nat) (nn : List Nat) (rows : List Row) (cB : ClassId) (cO : ClassId) (em : Nat) (aK : Nat → Nat) (aV : Nat → Nat) (fz : va_W) (hv : VT cB cO em aK (d + 1) fz a nn rows) : Met l y_OP_kindOf ws_OP_kindOf ({ frames := 2, cells := 0, slots := 0, locals := 44 }) (va_Pc [.ref a] (fun U => U.heap.size = sz ∧ va_P (dC, dI) vwCl ([] ++ fz) U.heap ∧ va_K (dC, dI) vwCl [(cB, .byte), (cO, .object "java/lang/Object")] U ∧ va_D (fun _ => True) ([] ++ fz) ∧ EX em aK aV (va_A ([] ++ fz) sz) U U.heap)) (va_Qi (fun (r : Int32) (u : Unit) => r = kI (opK (some rows))) (fun u t => va_P (dC, dI) vwCl ([] ++ fz) t.heap ∧ va_K (dC, dI) vwCl [(cB, .byte), (cO, .object "java/lang/Object")] t ∧ va_D (va_A ([] ++ fz) sz) ([] ++ fz)) (va_A ([] ++ fz) sz)) 0 0 (va_A ([] ++ fz) sz) := by
  refine Met.ofW (cc := c_OP_kindOf) (maxL := 1) (ret := (some .int)) (by decide) rfl ?_
  intro p e s m args below meth c s₁ B hml hv
  obtain ⟨rfl, hsz, hP, hK, hD0, hE⟩ := hv
  have hx := B.exec
  have hb := B.bytes
  have hr := B.returns
  have hts := atoms_spec (ws := ws_OP_kindOf) B.pre
  have htb := fun w (h : w ∈ TBL) => hts w (List.mem_cons_of_mem _ h)
  have hown : s.vm.findClass R_OP = some m.cls := findClass_of_methodNamed B.named
  have hlocks := B.notSynchronized
  subst hsz
  have hD := hD0.self (sz := s.heap.size)
  generalize hAe : va_A ([] ++ fz) s.heap.size = A at hD hE ⊢
  have hA : ∀ q : Nat, s.heap.size ≤ q → A q := fun q h => by rw [← hAe]; exact Or.inr h
  have hS : va_S A s.heap s.heap [] := va_S.rf
  have hP : va_P (dC, dI) vwCl ([] ++ fz) s.heap := hP
  have hl := lv_entry ([.ref a]) (n := 1) (Nat.le_of_ble_eq_true rfl)
  rw [lg_entry_eq]
  generalize (lg_sl ([.ref a]) ++ List.replicate (1 - (lg_sl ([.ref a])).length) Slot.unset).toArray = ls at hl ⊢
  have hl : lv_has ls 1 [(0, .ref a)] := hl
  obtain ⟨kd, ta, nu, nm, pa, dp, cn, tt, kk, num, rt, xs, ns, hc, htx, hnm, hal, hhd, hnl, hrl, hk5, hvl, hhk, hns, hdp, hcn, hrw, h160⟩ := (id hv : VT cB cO em aK (d + 1) fz a nn rows).opn
  refine lv_aload_n hx hb d_OP_kindOf_0 rfl (lv_at hl 0 rfl) ?_
  refine lv_ifnull hx hb d_OP_kindOf_1 ?_
  refine lv_aload_n hx hb d_OP_kindOf_4 rfl (lv_at hl 0 rfl) ?_
  obtain ⟨qz1, hz1⟩ := List.getElem?_of_mem (List.mem_append_right [] hc)
  refine va_get (D := (dC, dI)) (ci := 3) (v := .int kd) (C := R_VA) (T := T_VA) (N := 7) hx hb htb in_VA hown hK hP qz1 hz1 rfl 0 (by decide) (htb _ m_379) (fun _ h9 => h9) rfl d_OP_kindOf_5 ?_
  refine lv_iconst (v := 2) hx hb d_OP_kindOf_8 (by decide) ?_
  refine lv_icmp_eq (tgt := 14) hx hb d_OP_kindOf_9 rfl (fun h1 => ?_) (fun h1 => ?_)
  · have h1 : kk = 4 := (hhd.kind.2.2.1).mp h1
    have htt : tt = rt := by rcases hhd with ⟨_, h, _⟩ | ⟨_, h, _⟩ | ⟨_, _, h, _⟩ | ⟨_, h, _⟩ | ⟨_, h, _⟩; exact absurd h1 (by omega); exact absurd h1 (by omega); exact h; exact absurd h1 (by omega); exact absurd h1 (by omega)
    have hrt : txR rows = tt := by rw [hrw, htt]; rfl
    have hok : opK (some rows) = vrb tt := by rw [opK, if_pos (hhk.trans h1), hrt]
    refine lv_aload_n hx hb d_OP_kindOf_14 rfl (lv_at hl 0 rfl) ?_
    obtain ⟨qz2, hz2⟩ := List.getElem?_of_mem (List.mem_append_right [] hc)
    refine va_get (D := (dC, dI)) (ci := 3) (v := .ref ta) (C := R_VA) (T := T_VA) (N := 7) hx hb htb in_VA hown hK hP qz2 hz2 rfl 1 (by decide) (htb _ m_387) (fun _ h9 => h9) rfl d_OP_kindOf_15 ?_
    refine va_ldcS hx hb hown (lr_7 hE) d_OP_kindOf_18 ?_
    have hd6 : TX cB aK fz (aK 6) (LTx.getD 6 []) := Or.inr ⟨6, by decide, rfl, rfl⟩
    obtain ⟨v_a, hSV_a⟩ := htx.sv htb hE (fun q h1 h2 => hS.2.1 q h1 h2) hK hP (fun q hq => List.mem_append_right _ hq) 0 rfl
    obtain ⟨v_b, hSV_b⟩ := hd6.sv htb hE (fun q h1 h2 => hS.2.1 q h1 h2) hK hP (fun q hq => List.mem_append_right _ hq) 0 rfl
    have hPc : va_P (dC, dI) vwCl [] _ := hP.sub (ws' := []) [] rfl
    have hKc := hK.sub (tys' := []) [] rfl
    refine vp_callSi (W.runV (As := [.ref (aK 6)]) (rest := []) ⟨hx, hb, hml, hown, htb⟩ (q_ST_equals l dC dI ta (aK 6) v_a v_b tt (LTx.getD 6 []) em aK aV A ) (cwV 1 htb (g_V (fun _ h => h) m_510 m_603 m_508 m_509 m_4) rfl rfl rfl (by decide +kernel) ⟨Nat.le_of_ble_eq_true rfl, Nat.le_of_ble_eq_true rfl⟩) ⟨fun a U g mk q => by obtain ⟨q0, qP, qK, z0, z1, z2⟩ := q; exact ⟨q0, qP, va_K.moved (u := U) (U := U.calling g mk a) (Vm.Alike.refl U.vm) qK, EX.same (U := U) (U' := U.calling g mk a) rfl z0, SV.moved (Vm.Alike.refl U.vm) z1, SV.moved (Vm.Alike.refl U.vm) z2⟩, hSV_a.recv, fun U hU hW => ⟨rfl, by rw [hU]; exact hPc, va_K.moved hW.alike hKc, by rw [hU]; exact EX.warm hW (hE.kept (fun a h1 h2 => hS.2.1 a h1 h2)), by rw [hU]; exact SV.moved hW.alike hSV_a, by rw [hU]; exact SV.moved hW.alike hSV_b⟩⟩ rfl rfl hl.1 rfl (lv_room (Nat.le_of_ble_eq_true rfl)) d_OP_kindOf_20 ⟨Nat.le_of_ble_eq_true rfl, Nat.le_of_ble_eq_true rfl⟩) (fun r3 hw4 => ?_)
    have hw4 : (r3 = 1 ∧ tt = (LTx.getD 6 [])) ∨ (r3 = 0 ∧ tt ≠ (LTx.getD 6 [])) := hw4
    refine lv_if_eq (tgt := 28) hx hb d_OP_kindOf_23 rfl (fun g6 => ?_) (fun g6 => ?_)
    · have hn6 : tt ≠ LTx.getD 6 [] := by rcases hw4 with ⟨h, _⟩ | ⟨_, h⟩; exact absurd (h.symm.trans g6) (by decide); exact h
      refine lv_aload_n hx hb d_OP_kindOf_28 rfl (lv_at hl 0 rfl) ?_
      obtain ⟨qz5, hz5⟩ := List.getElem?_of_mem (List.mem_append_right [] hc)
      refine va_get (D := (dC, dI)) (ci := 3) (v := .ref ta) (C := R_VA) (T := T_VA) (N := 7) hx hb htb in_VA hown hK hP qz5 hz5 rfl 1 (by decide) (htb _ m_387) (fun _ h9 => h9) rfl d_OP_kindOf_29 ?_
      refine va_ldcS hx hb hown (lr_8 hE) d_OP_kindOf_32 ?_
      have hd7 : TX cB aK fz (aK 7) (LTx.getD 7 []) := Or.inr ⟨7, by decide, rfl, rfl⟩
      obtain ⟨v_a, hSV_a⟩ := htx.sv htb hE (fun q h1 h2 => hS.2.1 q h1 h2) hK hP (fun q hq => List.mem_append_right _ hq) 0 rfl
      obtain ⟨v_b, hSV_b⟩ := hd7.sv htb hE (fun q h1 h2 => hS.2.1 q h1 h2) hK hP (fun q hq => List.mem_append_right _ hq) 0 rfl
      have hPc : va_P (dC, dI) vwCl [] _ := hP.sub (ws' := []) [] rfl
      have hKc := hK.sub (tys' := []) [] rfl
      refine vp_callSi (W.runV (As := [.ref (aK 7)]) (rest := []) ⟨hx, hb, hml, hown, htb⟩ (q_ST_equals l dC dI ta (aK 7) v_a v_b tt (LTx.getD 7 []) em aK aV A ) (cwV 1 htb (g_V (fun _ h => h) m_510 m_603 m_508 m_509 m_4) rfl rfl rfl (by decide +kernel) ⟨Nat.le_of_ble_eq_true rfl, Nat.le_of_ble_eq_true rfl⟩) ⟨fun a U g mk q => by obtain ⟨q0, qP, qK, z0, z1, z2⟩ := q; exact ⟨q0, qP, va_K.moved (u := U) (U := U.calling g mk a) (Vm.Alike.refl U.vm) qK, EX.same (U := U) (U' := U.calling g mk a) rfl z0, SV.moved (Vm.Alike.refl U.vm) z1, SV.moved (Vm.Alike.refl U.vm) z2⟩, hSV_a.recv, fun U hU hW => ⟨rfl, by rw [hU]; exact hPc, va_K.moved hW.alike hKc, by rw [hU]; exact EX.warm hW (hE.kept (fun a h1 h2 => hS.2.1 a h1 h2)), by rw [hU]; exact SV.moved hW.alike hSV_a, by rw [hU]; exact SV.moved hW.alike hSV_b⟩⟩ rfl rfl hl.1 rfl (lv_room (Nat.le_of_ble_eq_true rfl)) d_OP_kindOf_34 ⟨Nat.le_of_ble_eq_true rfl, Nat.le_of_ble_eq_true rfl⟩) (fun r6 hw7 => ?_)
      have hw7 : (r6 = 1 ∧ tt = (LTx.getD 7 [])) ∨ (r6 = 0 ∧ tt ≠ (LTx.getD 7 [])) := hw7
      refine lv_if_eq (tgt := 42) hx hb d_OP_kindOf_37 rfl (fun g7 => ?_) (fun g7 => ?_)
      · have hn7 : tt ≠ LTx.getD 7 [] := by rcases hw7 with ⟨h, _⟩ | ⟨_, h⟩; exact absurd (h.symm.trans g7) (by decide); exact h
        refine lv_aload_n hx hb d_OP_kindOf_42 rfl (lv_at hl 0 rfl) ?_
        obtain ⟨qz8, hz8⟩ := List.getElem?_of_mem (List.mem_append_right [] hc)
        refine va_get (D := (dC, dI)) (ci := 3) (v := .ref ta) (C := R_VA) (T := T_VA) (N := 7) hx hb htb in_VA hown hK hP qz8 hz8 rfl 1 (by decide) (htb _ m_387) (fun _ h9 => h9) rfl d_OP_kindOf_43 ?_
        refine va_ldcS hx hb hown (lr_9 hE) d_OP_kindOf_46 ?_
        have hd8 : TX cB aK fz (aK 8) (LTx.getD 8 []) := Or.inr ⟨8, by decide, rfl, rfl⟩
        obtain ⟨v_a, hSV_a⟩ := htx.sv htb hE (fun q h1 h2 => hS.2.1 q h1 h2) hK hP (fun q hq => List.mem_append_right _ hq) 0 rfl
        obtain ⟨v_b, hSV_b⟩ := hd8.sv htb hE (fun q h1 h2 => hS.2.1 q h1 h2) hK hP (fun q hq => List.mem_append_right _ hq) 0 rfl
        have hPc : va_P (dC, dI) vwCl [] _ := hP.sub (ws' := []) [] rfl
        have hKc := hK.sub (tys' := []) [] rfl
        refine vp_callSi (W.runV (As := [.ref (aK 8)]) (rest := []) ⟨hx, hb, hml, hown, htb⟩ (q_ST_equals l dC dI ta (aK 8) v_a v_b tt (LTx.getD 8 []) em aK aV A ) (cwV 1 htb (g_V (fun _ h => h) m_510 m_603 m_508 m_509 m_4) rfl rfl rfl (by decide +kernel) ⟨Nat.le_of_ble_eq_true rfl, Nat.le_of_ble_eq_true rfl⟩) ⟨fun a U g mk q => by obtain ⟨q0, qP, qK, z0, z1, z2⟩ := q; exact ⟨q0, qP, va_K.moved (u := U) (U := U.calling g mk a) (Vm.Alike.refl U.vm) qK, EX.same (U := U) (U' := U.calling g mk a) rfl z0, SV.moved (Vm.Alike.refl U.vm) z1, SV.moved (Vm.Alike.refl U.vm) z2⟩, hSV_a.recv, fun U hU hW => ⟨rfl, by rw [hU]; exact hPc, va_K.moved hW.alike hKc, by rw [hU]; exact EX.warm hW (hE.kept (fun a h1 h2 => hS.2.1 a h1 h2)), by rw [hU]; exact SV.moved hW.alike hSV_a, by rw [hU]; exact SV.moved hW.alike hSV_b⟩⟩ rfl rfl hl.1 rfl (lv_room (Nat.le_of_ble_eq_true rfl)) d_OP_kindOf_48 ⟨Nat.le_of_ble_eq_true rfl, Nat.le_of_ble_eq_true rfl⟩) (fun r9 hw10 => ?_)
        have hw10 : (r9 = 1 ∧ tt = (LTx.getD 8 [])) ∨ (r9 = 0 ∧ tt ≠ (LTx.getD 8 [])) := hw10
        refine lv_if_eq (tgt := 56) hx hb d_OP_kindOf_51 rfl (fun g8 => ?_) (fun g8 => ?_)
        · have hn8 : tt ≠ LTx.getD 8 [] := by rcases hw10 with ⟨h, _⟩ | ⟨_, h⟩; exact absurd (h.symm.trans g8) (by decide); exact h
          refine lv_aload_n hx hb d_OP_kindOf_56 rfl (lv_at hl 0 rfl) ?_
          obtain ⟨qz11, hz11⟩ := List.getElem?_of_mem (List.mem_append_right [] hc)
          refine va_get (D := (dC, dI)) (ci := 3) (v := .ref ta) (C := R_VA) (T := T_VA) (N := 7) hx hb htb in_VA hown hK hP qz11 hz11 rfl 1 (by decide) (htb _ m_387) (fun _ h9 => h9) rfl d_OP_kindOf_57 ?_
          refine va_ldcS hx hb hown (lr_10 hE) d_OP_kindOf_60 ?_
          have hd9 : TX cB aK fz (aK 9) (LTx.getD 9 []) := Or.inr ⟨9, by decide, rfl, rfl⟩
          obtain ⟨v_a, hSV_a⟩ := htx.sv htb hE (fun q h1 h2 => hS.2.1 q h1 h2) hK hP (fun q hq => List.mem_append_right _ hq) 0 rfl
          obtain ⟨v_b, hSV_b⟩ := hd9.sv htb hE (fun q h1 h2 => hS.2.1 q h1 h2) hK hP (fun q hq => List.mem_append_right _ hq) 0 rfl
          have hPc : va_P (dC, dI) vwCl [] _ := hP.sub (ws' := []) [] rfl
          have hKc := hK.sub (tys' := []) [] rfl
          refine vp_callSi (W.runV (As := [.ref (aK 9)]) (rest := []) ⟨hx, hb, hml, hown, htb⟩ (q_ST_equals l dC dI ta (aK 9) v_a v_b tt (LTx.getD 9 []) em aK aV A ) (cwV 1 htb (g_V (fun _ h => h) m_510 m_603 m_508 m_509 m_4) rfl rfl rfl (by decide +kernel) ⟨Nat.le_of_ble_eq_true rfl, Nat.le_of_ble_eq_true rfl⟩) ⟨fun a U g mk q => by obtain ⟨q0, qP, qK, z0, z1, z2⟩ := q; exact ⟨q0, qP, va_K.moved (u := U) (U := U.calling g mk a) (Vm.Alike.refl U.vm) qK, EX.same (U := U) (U' := U.calling g mk a) rfl z0, SV.moved (Vm.Alike.refl U.vm) z1, SV.moved (Vm.Alike.refl U.vm) z2⟩, hSV_a.recv, fun U hU hW => ⟨rfl, by rw [hU]; exact hPc, va_K.moved hW.alike hKc, by rw [hU]; exact EX.warm hW (hE.kept (fun a h1 h2 => hS.2.1 a h1 h2)), by rw [hU]; exact SV.moved hW.alike hSV_a, by rw [hU]; exact SV.moved hW.alike hSV_b⟩⟩ rfl rfl hl.1 rfl (lv_room (Nat.le_of_ble_eq_true rfl)) d_OP_kindOf_62 ⟨Nat.le_of_ble_eq_true rfl, Nat.le_of_ble_eq_true rfl⟩) (fun r12 hw13 => ?_)
          have hw13 : (r12 = 1 ∧ tt = (LTx.getD 9 [])) ∨ (r12 = 0 ∧ tt ≠ (LTx.getD 9 [])) := hw13
          refine lv_if_eq (tgt := 70) hx hb d_OP_kindOf_65 rfl (fun g9 => ?_) (fun g9 => ?_)
          · have hn9 : tt ≠ LTx.getD 9 [] := by rcases hw13 with ⟨h, _⟩ | ⟨_, h⟩; exact absurd (h.symm.trans g9) (by decide); exact h
            refine lv_aload_n hx hb d_OP_kindOf_70 rfl (lv_at hl 0 rfl) ?_
            obtain ⟨qz14, hz14⟩ := List.getElem?_of_mem (List.mem_append_right [] hc)
            refine va_get (D := (dC, dI)) (ci := 3) (v := .ref ta) (C := R_VA) (T := T_VA) (N := 7) hx hb htb in_VA hown hK hP qz14 hz14 rfl 1 (by decide) (htb _ m_387) (fun _ h9 => h9) rfl d_OP_kindOf_71 ?_
            refine va_ldcS hx hb hown (lr_11 hE) d_OP_kindOf_74 ?_
            have hd10 : TX cB aK fz (aK 10) (LTx.getD 10 []) := Or.inr ⟨10, by decide, rfl, rfl⟩
            obtain ⟨v_a, hSV_a⟩ := htx.sv htb hE (fun q h1 h2 => hS.2.1 q h1 h2) hK hP (fun q hq => List.mem_append_right _ hq) 0 rfl
            obtain ⟨v_b, hSV_b⟩ := hd10.sv htb hE (fun q h1 h2 => hS.2.1 q h1 h2) hK hP (fun q hq => List.mem_append_right _ hq) 0 rfl
            have hPc : va_P (dC, dI) vwCl [] _ := hP.sub (ws' := []) [] rfl
            have hKc := hK.sub (tys' := []) [] rfl
            refine vp_callSi (W.runV (As := [.ref (aK 10)]) (rest := []) ⟨hx, hb, hml, hown, htb⟩ (q_ST_equals l dC dI ta (aK 10) v_a v_b tt (LTx.getD 10 []) em aK aV A ) (cwV 1 htb (g_V (fun _ h => h) m_510 m_603 m_508 m_509 m_4) rfl rfl rfl (by decide +kernel) ⟨Nat.le_of_ble_eq_true rfl, Nat.le_of_ble_eq_true rfl⟩) ⟨fun a U g mk q => by obtain ⟨q0, qP, qK, z0, z1, z2⟩ := q; exact ⟨q0, qP, va_K.moved (u := U) (U := U.calling g mk a) (Vm.Alike.refl U.vm) qK, EX.same (U := U) (U' := U.calling g mk a) rfl z0, SV.moved (Vm.Alike.refl U.vm) z1, SV.moved (Vm.Alike.refl U.vm) z2⟩, hSV_a.recv, fun U hU hW => ⟨rfl, by rw [hU]; exact hPc, va_K.moved hW.alike hKc, by rw [hU]; exact EX.warm hW (hE.kept (fun a h1 h2 => hS.2.1 a h1 h2)), by rw [hU]; exact SV.moved hW.alike hSV_a, by rw [hU]; exact SV.moved hW.alike hSV_b⟩⟩ rfl rfl hl.1 rfl (lv_room (Nat.le_of_ble_eq_true rfl)) d_OP_kindOf_76 ⟨Nat.le_of_ble_eq_true rfl, Nat.le_of_ble_eq_true rfl⟩) (fun r15 hw16 => ?_)
            have hw16 : (r15 = 1 ∧ tt = (LTx.getD 10 [])) ∨ (r15 = 0 ∧ tt ≠ (LTx.getD 10 [])) := hw16
            refine lv_if_eq (tgt := 84) hx hb d_OP_kindOf_79 rfl (fun g10 => ?_) (fun g10 => ?_)
            · have hn10 : tt ≠ LTx.getD 10 [] := by rcases hw16 with ⟨h, _⟩ | ⟨_, h⟩; exact absurd (h.symm.trans g10) (by decide); exact h
              refine lv_aload_n hx hb d_OP_kindOf_84 rfl (lv_at hl 0 rfl) ?_
              obtain ⟨qz17, hz17⟩ := List.getElem?_of_mem (List.mem_append_right [] hc)
              refine va_get (D := (dC, dI)) (ci := 3) (v := .ref ta) (C := R_VA) (T := T_VA) (N := 7) hx hb htb in_VA hown hK hP qz17 hz17 rfl 1 (by decide) (htb _ m_387) (fun _ h9 => h9) rfl d_OP_kindOf_85 ?_
              refine va_ldcS hx hb hown (lr_12 hE) d_OP_kindOf_88 ?_
              have hd11 : TX cB aK fz (aK 11) (LTx.getD 11 []) := Or.inr ⟨11, by decide, rfl, rfl⟩
              obtain ⟨v_a, hSV_a⟩ := htx.sv htb hE (fun q h1 h2 => hS.2.1 q h1 h2) hK hP (fun q hq => List.mem_append_right _ hq) 0 rfl
              obtain ⟨v_b, hSV_b⟩ := hd11.sv htb hE (fun q h1 h2 => hS.2.1 q h1 h2) hK hP (fun q hq => List.mem_append_right _ hq) 0 rfl
              have hPc : va_P (dC, dI) vwCl [] _ := hP.sub (ws' := []) [] rfl
              have hKc := hK.sub (tys' := []) [] rfl
              refine vp_callSi (W.runV (As := [.ref (aK 11)]) (rest := []) ⟨hx, hb, hml, hown, htb⟩ (q_ST_equals l dC dI ta (aK 11) v_a v_b tt (LTx.getD 11 []) em aK aV A ) (cwV 1 htb (g_V (fun _ h => h) m_510 m_603 m_508 m_509 m_4) rfl rfl rfl (by decide +kernel) ⟨Nat.le_of_ble_eq_true rfl, Nat.le_of_ble_eq_true rfl⟩) ⟨fun a U g mk q => by obtain ⟨q0, qP, qK, z0, z1, z2⟩ := q; exact ⟨q0, qP, va_K.moved (u := U) (U := U.calling g mk a) (Vm.Alike.refl U.vm) qK, EX.same (U := U) (U' := U.calling g mk a) rfl z0, SV.moved (Vm.Alike.refl U.vm) z1, SV.moved (Vm.Alike.refl U.vm) z2⟩, hSV_a.recv, fun U hU hW => ⟨rfl, by rw [hU]; exact hPc, va_K.moved hW.alike hKc, by rw [hU]; exact EX.warm hW (hE.kept (fun a h1 h2 => hS.2.1 a h1 h2)), by rw [hU]; exact SV.moved hW.alike hSV_a, by rw [hU]; exact SV.moved hW.alike hSV_b⟩⟩ rfl rfl hl.1 rfl (lv_room (Nat.le_of_ble_eq_true rfl)) d_OP_kindOf_90 ⟨Nat.le_of_ble_eq_true rfl, Nat.le_of_ble_eq_true rfl⟩) (fun r18 hw19 => ?_)
              have hw19 : (r18 = 1 ∧ tt = (LTx.getD 11 [])) ∨ (r18 = 0 ∧ tt ≠ (LTx.getD 11 [])) := hw19
              refine lv_if_eq (tgt := 101) hx hb d_OP_kindOf_93 rfl (fun g11 => ?_) (fun g11 => ?_)
              · have hn11 : tt ≠ LTx.getD 11 [] := by rcases hw19 with ⟨h, _⟩ | ⟨_, h⟩; exact absurd (h.symm.trans g11) (by decide); exact h
                refine lv_iconst (v := (-1)) hx hb d_OP_kindOf_101 (by decide) ?_
                have hP9 := zz_pickP (pre := []) (fz := fz) (wc := []) hP [] rfl
                have hD9 := zz_pickD (pre := []) (fz := fz) (wc := []) hD [] (by decide) rfl
                have hK9 := hK.sub (tys' := [(cB, .byte), (cO, .object "java/lang/Object")]) [0, 1] rfl
                refine W.widen (k := 0) (n := 0) (Nat.le_of_ble_eq_true rfl) (Nat.le_of_ble_eq_true rfl) ?_
                exact W.iret (v := (-1)) hx hb hr (fun t ht hW => ⟨⟨(-1), (), rfl, by rw [hok, vrb, if_neg hn6, if_neg hn7, if_neg hn8, if_neg hn9, if_neg hn10, if_neg hn11]; rfl, ⟨by rw [ht]; exact hP9, va_K.moved hW.alike hK9, hD9⟩⟩, hS.F ht⟩) hS.2.2 d_OP_kindOf_102
              · have he11 : tt = LTx.getD 11 [] := by rcases hw19 with ⟨_, h⟩ | ⟨h, _⟩; exact h; exact absurd h g11
                refine lv_bipush (v := 6) hx hb d_OP_kindOf_96 (by decide) ?_
                refine lv_goto (tgt := 102) hx hb d_OP_kindOf_98 rfl ?_
                have hP9 := zz_pickP (pre := []) (fz := fz) (wc := []) hP [] rfl
                have hD9 := zz_pickD (pre := []) (fz := fz) (wc := []) hD [] (by decide) rfl
                have hK9 := hK.sub (tys' := [(cB, .byte), (cO, .object "java/lang/Object")]) [0, 1] rfl
                refine W.widen (k := 0) (n := 0) (Nat.le_of_ble_eq_true rfl) (Nat.le_of_ble_eq_true rfl) ?_
                exact W.iret (v := 6) hx hb hr (fun t ht hW => ⟨⟨6, (), rfl, by rw [hok, vrb, if_neg hn6, if_neg hn7, if_neg hn8, if_neg hn9, if_neg hn10, if_pos he11]; rfl, ⟨by rw [ht]; exact hP9, va_K.moved hW.alike hK9, hD9⟩⟩, hS.F ht⟩) hS.2.2 d_OP_kindOf_102
            · have he10 : tt = LTx.getD 10 [] := by rcases hw16 with ⟨_, h⟩ | ⟨h, _⟩; exact h; exact absurd h g10
              refine lv_iconst (v := 5) hx hb d_OP_kindOf_82 (by decide) ?_
              have hP9 := zz_pickP (pre := []) (fz := fz) (wc := []) hP [] rfl
              have hD9 := zz_pickD (pre := []) (fz := fz) (wc := []) hD [] (by decide) rfl
              have hK9 := hK.sub (tys' := [(cB, .byte), (cO, .object "java/lang/Object")]) [0, 1] rfl
              refine W.widen (k := 0) (n := 0) (Nat.le_of_ble_eq_true rfl) (Nat.le_of_ble_eq_true rfl) ?_
              exact W.iret (v := 5) hx hb hr (fun t ht hW => ⟨⟨5, (), rfl, by rw [hok, vrb, if_neg hn6, if_neg hn7, if_neg hn8, if_neg hn9, if_pos he10]; rfl, ⟨by rw [ht]; exact hP9, va_K.moved hW.alike hK9, hD9⟩⟩, hS.F ht⟩) hS.2.2 d_OP_kindOf_83
          · have he9 : tt = LTx.getD 9 [] := by rcases hw13 with ⟨_, h⟩ | ⟨h, _⟩; exact h; exact absurd h g9
            refine lv_iconst (v := 4) hx hb d_OP_kindOf_68 (by decide) ?_
            have hP9 := zz_pickP (pre := []) (fz := fz) (wc := []) hP [] rfl
            have hD9 := zz_pickD (pre := []) (fz := fz) (wc := []) hD [] (by decide) rfl
            have hK9 := hK.sub (tys' := [(cB, .byte), (cO, .object "java/lang/Object")]) [0, 1] rfl
            refine W.widen (k := 0) (n := 0) (Nat.le_of_ble_eq_true rfl) (Nat.le_of_ble_eq_true rfl) ?_
            exact W.iret (v := 4) hx hb hr (fun t ht hW => ⟨⟨4, (), rfl, by rw [hok, vrb, if_neg hn6, if_neg hn7, if_neg hn8, if_pos he9]; rfl, ⟨by rw [ht]; exact hP9, va_K.moved hW.alike hK9, hD9⟩⟩, hS.F ht⟩) hS.2.2 d_OP_kindOf_69
        · have he8 : tt = LTx.getD 8 [] := by rcases hw10 with ⟨_, h⟩ | ⟨h, _⟩; exact h; exact absurd h g8
          refine lv_iconst (v := 3) hx hb d_OP_kindOf_54 (by decide) ?_
          have hP9 := zz_pickP (pre := []) (fz := fz) (wc := []) hP [] rfl
          have hD9 := zz_pickD (pre := []) (fz := fz) (wc := []) hD [] (by decide) rfl
          have hK9 := hK.sub (tys' := [(cB, .byte), (cO, .object "java/lang/Object")]) [0, 1] rfl
          refine W.widen (k := 0) (n := 0) (Nat.le_of_ble_eq_true rfl) (Nat.le_of_ble_eq_true rfl) ?_
          exact W.iret (v := 3) hx hb hr (fun t ht hW => ⟨⟨3, (), rfl, by rw [hok, vrb, if_neg hn6, if_neg hn7, if_pos he8]; rfl, ⟨by rw [ht]; exact hP9, va_K.moved hW.alike hK9, hD9⟩⟩, hS.F ht⟩) hS.2.2 d_OP_kindOf_55
      · have he7 : tt = LTx.getD 7 [] := by rcases hw7 with ⟨_, h⟩ | ⟨h, _⟩; exact h; exact absurd h g7
        refine lv_iconst (v := 2) hx hb d_OP_kindOf_40 (by decide) ?_
        have hP9 := zz_pickP (pre := []) (fz := fz) (wc := []) hP [] rfl
        have hD9 := zz_pickD (pre := []) (fz := fz) (wc := []) hD [] (by decide) rfl
        have hK9 := hK.sub (tys' := [(cB, .byte), (cO, .object "java/lang/Object")]) [0, 1] rfl
        refine W.widen (k := 0) (n := 0) (Nat.le_of_ble_eq_true rfl) (Nat.le_of_ble_eq_true rfl) ?_
        exact W.iret (v := 2) hx hb hr (fun t ht hW => ⟨⟨2, (), rfl, by rw [hok, vrb, if_neg hn6, if_pos he7]; rfl, ⟨by rw [ht]; exact hP9, va_K.moved hW.alike hK9, hD9⟩⟩, hS.F ht⟩) hS.2.2 d_OP_kindOf_41
    · have he6 : tt = LTx.getD 6 [] := by rcases hw4 with ⟨_, h⟩ | ⟨h, _⟩; exact h; exact absurd h g6
      refine lv_iconst (v := 1) hx hb d_OP_kindOf_26 (by decide) ?_
      have hP9 := zz_pickP (pre := []) (fz := fz) (wc := []) hP [] rfl
      have hD9 := zz_pickD (pre := []) (fz := fz) (wc := []) hD [] (by decide) rfl
      have hK9 := hK.sub (tys' := [(cB, .byte), (cO, .object "java/lang/Object")]) [0, 1] rfl
      refine W.widen (k := 0) (n := 0) (Nat.le_of_ble_eq_true rfl) (Nat.le_of_ble_eq_true rfl) ?_
      exact W.iret (v := 1) hx hb hr (fun t ht hW => ⟨⟨1, (), rfl, by rw [hok, vrb, if_pos he6]; rfl, ⟨by rw [ht]; exact hP9, va_K.moved hW.alike hK9, hD9⟩⟩, hS.F ht⟩) hS.2.2 d_OP_kindOf_27
  · have h1 : ¬ kk = 4 := fun h => h1 ((hhd.kind.2.2.1).mpr h)
    refine lv_iconst (v := (-1)) hx hb d_OP_kindOf_12 (by decide) ?_
    have hP9 := zz_pickP (pre := []) (fz := fz) (wc := []) hP [] rfl
    have hD9 := zz_pickD (pre := []) (fz := fz) (wc := []) hD [] (by decide) rfl
    have hK9 := hK.sub (tys' := [(cB, .byte), (cO, .object "java/lang/Object")]) [0, 1] rfl
    refine W.widen (k := 0) (n := 0) (Nat.le_of_ble_eq_true rfl) (Nat.le_of_ble_eq_true rfl) ?_
    exact W.iret (v := (-1)) hx hb hr (fun t ht hW => ⟨⟨(-1), (), rfl, by rw [opK, if_neg (fun h => h1 (hhk.symm.trans h))]; rfl, ⟨by rw [ht]; exact hP9, va_K.moved hW.alike hK9, hD9⟩⟩, hS.F ht⟩) hS.2.2 d_OP_kindOf_13
set_option maxHeartbeats 1000000 in
set_option maxRecDepth 100000 in
/-- Operation(kind, path, from, value) -/
theorem k_OP_initF (l : Launch) (dC : Nat → ClassId) (dI : Nat → Nat → Nat) (sz : Nat) (x : Nat) (kk : Int32) (pa : Nat) (fa : Nat) : Met l y_OP_init ws_OP_init ({ frames := 1, cells := 0, slots := 0, locals := 12 }) (va_Pc [.ref x, .int kk, .ref pa, .ref fa, .null] (fun U => U.heap.size = sz ∧ va_P (dC, dI) vwCl [(x, .inr (4, [.int 0, .null, .null, .null]))] U.heap ∧ va_K (dC, dI) vwCl [] U ∧ va_D (fun _ => True) [(x, .inr (4, [.int 0, .null, .null, .null]))])) (va_Qv (fun (u : Unit) => True) (fun u t => va_P (dC, dI) vwCl [(x, .inr (4, [.int kk, .ref pa, .ref fa, .null]))] t.heap ∧ va_K (dC, dI) vwCl [] t ∧ va_D (va_A [(x, .inr (4, [.int 0, .null, .null, .null]))] sz) [(x, .inr (4, [.int kk, .ref pa, .ref fa, .null]))]) (va_A [(x, .inr (4, [.int 0, .null, .null, .null]))] sz)) 0 0 (va_A [(x, .inr (4, [.int 0, .null, .null, .null]))] sz) := by
  refine Met.ofW (cc := c_OP_init) (maxL := 5) (ret := none) (by decide) rfl ?_
  intro p e s m args below meth c s₁ B hml hv
  obtain ⟨rfl, hsz, hP, hK, hD0⟩ := hv
  have hx := B.exec
  have hb := B.bytes
  have hr := B.returns
  have hts := atoms_spec (ws := ws_OP_init) B.pre
  have htb := fun w (h : w ∈ TBL) => hts w (List.mem_cons_of_mem _ h)
  have hown : s.vm.findClass R_OP = some m.cls := findClass_of_methodNamed B.named
  have hlocks := B.notSynchronized
  have hin : meth.name = "<init>" := (name_of_methodNamed B.named B.method).1
  subst hsz
  have hD := hD0.self (sz := s.heap.size)
  generalize hAe : va_A [(x, .inr (4, [.int 0, .null, .null, .null]))] s.heap.size = A at hD ⊢
  have hA : ∀ q : Nat, s.heap.size ≤ q → A q := fun q h => by rw [← hAe]; exact Or.inr h
  have hS : va_S A s.heap s.heap [] := va_S.rf
  have hP : va_P (dC, dI) vwCl [(x, .inr (4, [.int 0, .null, .null, .null]))] s.heap := hP
  have hl := lv_entry ([.ref x, .int kk, .ref pa, .ref fa, .null]) (n := 5) (Nat.le_of_ble_eq_true rfl)
  rw [lg_entry_eq]
  generalize (lg_sl ([.ref x, .int kk, .ref pa, .ref fa, .null]) ++ List.replicate (5 - (lg_sl ([.ref x, .int kk, .ref pa, .ref fa, .null])).length) Slot.unset).toArray = ls at hl ⊢
  have hl : lv_has ls 5 [(0, .ref x), (1, .int kk), (2, .ref pa), (3, .ref fa), (4, .null)] := hl
  refine lv_aload_n hx hb d_OP_init_0 rfl (lv_at hl 0 rfl) ?_
  refine W.objInit hx hb hown (htb _ m_729) (htb _ m_35) (htb _ m_36) rfl (by rw [hml]; exact hl.1) rfl d_OP_init_1 (Nat.le_of_ble_eq_true rfl) (Nat.le_of_ble_eq_true rfl) ?_
  refine W.eq (g2 := F0 m 4 ls []) rfl ?_
  refine lv_aload_n hx hb d_OP_init_4 rfl (lv_at hl 0 rfl) ?_
  refine lv_iload_n hx hb d_OP_init_5 rfl (lv_at hl 1 rfl) ?_
  refine va_putF (D := (dC, dI)) (ci := 4) (v := .int kk) (ty := .int) (C := R_OP) (T := T_OP) (N := 4) hx hb htb in_OP ty_OP ty_OP_ok nm_OP hown hK hP hD hS 0 rfl rfl 0 (by decide) (htb _ m_730) (fun _ h9 => h9) rfl hin rfl (by decide +kernel) rfl rfl (Nat.le_of_ble_eq_true rfl) d_OP_init_6 (fun H locs hP hD hS => ?_)
  have hP : va_P (dC, dI) vwCl [(x, .inr (4, [.int kk, .null, .null, .null]))] H := hP
  have hD : va_D A [(x, .inr (4, [.int kk, .null, .null, .null]))] := hD
  refine lv_aload_n hx hb d_OP_init_9 rfl (lv_at hl 0 rfl) ?_
  refine lv_aload_n hx hb d_OP_init_10 rfl (lv_at hl 2 rfl) ?_
  refine va_putF (D := (dC, dI)) (ci := 4) (v := .ref pa) (ty := (.object "PatchStore$Pointer")) (C := R_OP) (T := T_OP) (N := 4) hx hb htb in_OP ty_OP ty_OP_ok nm_OP hown hK hP hD hS 0 rfl rfl 1 (by decide) (htb _ m_732) (fun _ h9 => h9) rfl hin rfl (by decide +kernel) rfl rfl (Nat.le_of_ble_eq_true rfl) d_OP_init_11 (fun H locs hP hD hS => ?_)
  have hP : va_P (dC, dI) vwCl [(x, .inr (4, [.int kk, .ref pa, .null, .null]))] H := hP
  have hD : va_D A [(x, .inr (4, [.int kk, .ref pa, .null, .null]))] := hD
  refine lv_aload_n hx hb d_OP_init_14 rfl (lv_at hl 0 rfl) ?_
  refine lv_aload_n hx hb d_OP_init_15 rfl (lv_at hl 3 rfl) ?_
  refine va_putF (D := (dC, dI)) (ci := 4) (v := .ref fa) (ty := (.object "PatchStore$Pointer")) (C := R_OP) (T := T_OP) (N := 4) hx hb htb in_OP ty_OP ty_OP_ok nm_OP hown hK hP hD hS 0 rfl rfl 2 (by decide) (htb _ m_734) (fun _ h9 => h9) rfl hin rfl (by decide +kernel) rfl rfl (Nat.le_of_ble_eq_true rfl) d_OP_init_16 (fun H locs hP hD hS => ?_)
  have hP : va_P (dC, dI) vwCl [(x, .inr (4, [.int kk, .ref pa, .ref fa, .null]))] H := hP
  have hD : va_D A [(x, .inr (4, [.int kk, .ref pa, .ref fa, .null]))] := hD
  refine lv_aload_n hx hb d_OP_init_19 rfl (lv_at hl 0 rfl) ?_
  refine lv_aloadN hx hb d_OP_init_20 (lv_at hl 4 rfl) ?_
  refine va_putF (D := (dC, dI)) (ci := 4) (v := .null) (ty := (.object "PatchStore$Value")) (C := R_OP) (T := T_OP) (N := 4) hx hb htb in_OP ty_OP ty_OP_ok nm_OP hown hK hP hD hS 0 rfl rfl 3 (by decide) (htb _ m_736) (fun _ h9 => h9) rfl hin rfl (by decide +kernel) rfl rfl (Nat.le_of_ble_eq_true rfl) d_OP_init_22 (fun H locs hP hD hS => ?_)
  have hP : va_P (dC, dI) vwCl [(x, .inr (4, [.int kk, .ref pa, .ref fa, .null]))] H := hP
  have hD : va_D A [(x, .inr (4, [.int kk, .ref pa, .ref fa, .null]))] := hD
  have hP9 := hP.sub (ws' := [(x, .inr (4, [.int kk, .ref pa, .ref fa, .null]))]) [0] rfl
  have hD9 := hD.sub (ws' := [(x, .inr (4, [.int kk, .ref pa, .ref fa, .null]))]) [0] (by decide) rfl
  have hK9 := hK.sub (tys' := []) [] rfl
  refine W.widen (k := 0) (n := 0) (Nat.le_of_ble_eq_true rfl) (Nat.le_of_ble_eq_true rfl) ?_
  exact W.vret hx hb hr (fun t ht hW => ⟨⟨(), rfl, trivial, ⟨by rw [ht]; exact hP9, va_K.moved hW.alike hK9, hD9⟩⟩, hS.F ht⟩) hS.2.2 d_OP_init_25
set_option maxHeartbeats 1000000 in
set_option maxRecDepth 100000 in
/-- Operation(kind, path, from, value) -/
theorem k_OP_initN (l : Launch) (dC : Nat → ClassId) (dI : Nat → Nat → Nat) (sz : Nat) (x : Nat) (kk : Int32) (pa : Nat) : Met l y_OP_init ws_OP_init ({ frames := 1, cells := 0, slots := 0, locals := 12 }) (va_Pc [.ref x, .int kk, .ref pa, .null, .null] (fun U => U.heap.size = sz ∧ va_P (dC, dI) vwCl [(x, .inr (4, [.int 0, .null, .null, .null]))] U.heap ∧ va_K (dC, dI) vwCl [] U ∧ va_D (fun _ => True) [(x, .inr (4, [.int 0, .null, .null, .null]))])) (va_Qv (fun (u : Unit) => True) (fun u t => va_P (dC, dI) vwCl [(x, .inr (4, [.int kk, .ref pa, .null, .null]))] t.heap ∧ va_K (dC, dI) vwCl [] t ∧ va_D (va_A [(x, .inr (4, [.int 0, .null, .null, .null]))] sz) [(x, .inr (4, [.int kk, .ref pa, .null, .null]))]) (va_A [(x, .inr (4, [.int 0, .null, .null, .null]))] sz)) 0 0 (va_A [(x, .inr (4, [.int 0, .null, .null, .null]))] sz) := by
  refine Met.ofW (cc := c_OP_init) (maxL := 5) (ret := none) (by decide) rfl ?_
  intro p e s m args below meth c s₁ B hml hv
  obtain ⟨rfl, hsz, hP, hK, hD0⟩ := hv
  have hx := B.exec
  have hb := B.bytes
  have hr := B.returns
  have hts := atoms_spec (ws := ws_OP_init) B.pre
  have htb := fun w (h : w ∈ TBL) => hts w (List.mem_cons_of_mem _ h)
  have hown : s.vm.findClass R_OP = some m.cls := findClass_of_methodNamed B.named
  have hlocks := B.notSynchronized
  have hin : meth.name = "<init>" := (name_of_methodNamed B.named B.method).1
  subst hsz
  have hD := hD0.self (sz := s.heap.size)
  generalize hAe : va_A [(x, .inr (4, [.int 0, .null, .null, .null]))] s.heap.size = A at hD ⊢
  have hA : ∀ q : Nat, s.heap.size ≤ q → A q := fun q h => by rw [← hAe]; exact Or.inr h
  have hS : va_S A s.heap s.heap [] := va_S.rf
  have hP : va_P (dC, dI) vwCl [(x, .inr (4, [.int 0, .null, .null, .null]))] s.heap := hP
  have hl := lv_entry ([.ref x, .int kk, .ref pa, .null, .null]) (n := 5) (Nat.le_of_ble_eq_true rfl)
  rw [lg_entry_eq]
  generalize (lg_sl ([.ref x, .int kk, .ref pa, .null, .null]) ++ List.replicate (5 - (lg_sl ([.ref x, .int kk, .ref pa, .null, .null])).length) Slot.unset).toArray = ls at hl ⊢
  have hl : lv_has ls 5 [(0, .ref x), (1, .int kk), (2, .ref pa), (3, .null), (4, .null)] := hl
  refine lv_aload_n hx hb d_OP_init_0 rfl (lv_at hl 0 rfl) ?_
  refine W.objInit hx hb hown (htb _ m_729) (htb _ m_35) (htb _ m_36) rfl (by rw [hml]; exact hl.1) rfl d_OP_init_1 (Nat.le_of_ble_eq_true rfl) (Nat.le_of_ble_eq_true rfl) ?_
  refine W.eq (g2 := F0 m 4 ls []) rfl ?_
  refine lv_aload_n hx hb d_OP_init_4 rfl (lv_at hl 0 rfl) ?_
  refine lv_iload_n hx hb d_OP_init_5 rfl (lv_at hl 1 rfl) ?_
  refine va_putF (D := (dC, dI)) (ci := 4) (v := .int kk) (ty := .int) (C := R_OP) (T := T_OP) (N := 4) hx hb htb in_OP ty_OP ty_OP_ok nm_OP hown hK hP hD hS 0 rfl rfl 0 (by decide) (htb _ m_730) (fun _ h9 => h9) rfl hin rfl (by decide +kernel) rfl rfl (Nat.le_of_ble_eq_true rfl) d_OP_init_6 (fun H locs hP hD hS => ?_)
  have hP : va_P (dC, dI) vwCl [(x, .inr (4, [.int kk, .null, .null, .null]))] H := hP
  have hD : va_D A [(x, .inr (4, [.int kk, .null, .null, .null]))] := hD
  refine lv_aload_n hx hb d_OP_init_9 rfl (lv_at hl 0 rfl) ?_
  refine lv_aload_n hx hb d_OP_init_10 rfl (lv_at hl 2 rfl) ?_
  refine va_putF (D := (dC, dI)) (ci := 4) (v := .ref pa) (ty := (.object "PatchStore$Pointer")) (C := R_OP) (T := T_OP) (N := 4) hx hb htb in_OP ty_OP ty_OP_ok nm_OP hown hK hP hD hS 0 rfl rfl 1 (by decide) (htb _ m_732) (fun _ h9 => h9) rfl hin rfl (by decide +kernel) rfl rfl (Nat.le_of_ble_eq_true rfl) d_OP_init_11 (fun H locs hP hD hS => ?_)
  have hP : va_P (dC, dI) vwCl [(x, .inr (4, [.int kk, .ref pa, .null, .null]))] H := hP
  have hD : va_D A [(x, .inr (4, [.int kk, .ref pa, .null, .null]))] := hD
  refine lv_aload_n hx hb d_OP_init_14 rfl (lv_at hl 0 rfl) ?_
  refine lv_aload_nN hx hb d_OP_init_15 rfl (lv_at hl 3 rfl) ?_
  refine va_putF (D := (dC, dI)) (ci := 4) (v := .null) (ty := (.object "PatchStore$Pointer")) (C := R_OP) (T := T_OP) (N := 4) hx hb htb in_OP ty_OP ty_OP_ok nm_OP hown hK hP hD hS 0 rfl rfl 2 (by decide) (htb _ m_734) (fun _ h9 => h9) rfl hin rfl (by decide +kernel) rfl rfl (Nat.le_of_ble_eq_true rfl) d_OP_init_16 (fun H locs hP hD hS => ?_)
  have hP : va_P (dC, dI) vwCl [(x, .inr (4, [.int kk, .ref pa, .null, .null]))] H := hP
  have hD : va_D A [(x, .inr (4, [.int kk, .ref pa, .null, .null]))] := hD
  refine lv_aload_n hx hb d_OP_init_19 rfl (lv_at hl 0 rfl) ?_
  refine lv_aloadN hx hb d_OP_init_20 (lv_at hl 4 rfl) ?_
  refine va_putF (D := (dC, dI)) (ci := 4) (v := .null) (ty := (.object "PatchStore$Value")) (C := R_OP) (T := T_OP) (N := 4) hx hb htb in_OP ty_OP ty_OP_ok nm_OP hown hK hP hD hS 0 rfl rfl 3 (by decide) (htb _ m_736) (fun _ h9 => h9) rfl hin rfl (by decide +kernel) rfl rfl (Nat.le_of_ble_eq_true rfl) d_OP_init_22 (fun H locs hP hD hS => ?_)
  have hP : va_P (dC, dI) vwCl [(x, .inr (4, [.int kk, .ref pa, .null, .null]))] H := hP
  have hD : va_D A [(x, .inr (4, [.int kk, .ref pa, .null, .null]))] := hD
  have hP9 := hP.sub (ws' := [(x, .inr (4, [.int kk, .ref pa, .null, .null]))]) [0] rfl
  have hD9 := hD.sub (ws' := [(x, .inr (4, [.int kk, .ref pa, .null, .null]))]) [0] (by decide) rfl
  have hK9 := hK.sub (tys' := []) [] rfl
  refine W.widen (k := 0) (n := 0) (Nat.le_of_ble_eq_true rfl) (Nat.le_of_ble_eq_true rfl) ?_
  exact W.vret hx hb hr (fun t ht hW => ⟨⟨(), rfl, trivial, ⟨by rw [ht]; exact hP9, va_K.moved hW.alike hK9, hD9⟩⟩, hS.F ht⟩) hS.2.2 d_OP_init_25
set_option maxHeartbeats 1000000 in
set_option maxRecDepth 100000 in
/-- Operation(kind, path, from, value) -/
theorem k_OP_initV (l : Launch) (dC : Nat → ClassId) (dI : Nat → Nat → Nat) (sz : Nat) (x : Nat) (kk : Int32) (pa : Nat) (yv : Nat) : Met l y_OP_init ws_OP_init ({ frames := 1, cells := 0, slots := 0, locals := 12 }) (va_Pc [.ref x, .int kk, .ref pa, .null, .ref yv] (fun U => U.heap.size = sz ∧ va_P (dC, dI) vwCl [(x, .inr (4, [.int 0, .null, .null, .null]))] U.heap ∧ va_K (dC, dI) vwCl [] U ∧ va_D (fun _ => True) [(x, .inr (4, [.int 0, .null, .null, .null]))])) (va_Qv (fun (u : Unit) => True) (fun u t => va_P (dC, dI) vwCl [(x, .inr (4, [.int kk, .ref pa, .null, .ref yv]))] t.heap ∧ va_K (dC, dI) vwCl [] t ∧ va_D (va_A [(x, .inr (4, [.int 0, .null, .null, .null]))] sz) [(x, .inr (4, [.int kk, .ref pa, .null, .ref yv]))]) (va_A [(x, .inr (4, [.int 0, .null, .null, .null]))] sz)) 0 0 (va_A [(x, .inr (4, [.int 0, .null, .null, .null]))] sz) := by
  refine Met.ofW (cc := c_OP_init) (maxL := 5) (ret := none) (by decide) rfl ?_
  intro p e s m args below meth c s₁ B hml hv
  obtain ⟨rfl, hsz, hP, hK, hD0⟩ := hv
  have hx := B.exec
  have hb := B.bytes
  have hr := B.returns
  have hts := atoms_spec (ws := ws_OP_init) B.pre
  have htb := fun w (h : w ∈ TBL) => hts w (List.mem_cons_of_mem _ h)
  have hown : s.vm.findClass R_OP = some m.cls := findClass_of_methodNamed B.named
  have hlocks := B.notSynchronized
  have hin : meth.name = "<init>" := (name_of_methodNamed B.named B.method).1
  subst hsz
  have hD := hD0.self (sz := s.heap.size)
  generalize hAe : va_A [(x, .inr (4, [.int 0, .null, .null, .null]))] s.heap.size = A at hD ⊢
  have hA : ∀ q : Nat, s.heap.size ≤ q → A q := fun q h => by rw [← hAe]; exact Or.inr h
  have hS : va_S A s.heap s.heap [] := va_S.rf
  have hP : va_P (dC, dI) vwCl [(x, .inr (4, [.int 0, .null, .null, .null]))] s.heap := hP
  have hl := lv_entry ([.ref x, .int kk, .ref pa, .null, .ref yv]) (n := 5) (Nat.le_of_ble_eq_true rfl)
  rw [lg_entry_eq]
  generalize (lg_sl ([.ref x, .int kk, .ref pa, .null, .ref yv]) ++ List.replicate (5 - (lg_sl ([.ref x, .int kk, .ref pa, .null, .ref yv])).length) Slot.unset).toArray = ls at hl ⊢
  have hl : lv_has ls 5 [(0, .ref x), (1, .int kk), (2, .ref pa), (3, .null), (4, .ref yv)] := hl
  refine lv_aload_n hx hb d_OP_init_0 rfl (lv_at hl 0 rfl) ?_
  refine W.objInit hx hb hown (htb _ m_729) (htb _ m_35) (htb _ m_36) rfl (by rw [hml]; exact hl.1) rfl d_OP_init_1 (Nat.le_of_ble_eq_true rfl) (Nat.le_of_ble_eq_true rfl) ?_
  refine W.eq (g2 := F0 m 4 ls []) rfl ?_
  refine lv_aload_n hx hb d_OP_init_4 rfl (lv_at hl 0 rfl) ?_
  refine lv_iload_n hx hb d_OP_init_5 rfl (lv_at hl 1 rfl) ?_
  refine va_putF (D := (dC, dI)) (ci := 4) (v := .int kk) (ty := .int) (C := R_OP) (T := T_OP) (N := 4) hx hb htb in_OP ty_OP ty_OP_ok nm_OP hown hK hP hD hS 0 rfl rfl 0 (by decide) (htb _ m_730) (fun _ h9 => h9) rfl hin rfl (by decide +kernel) rfl rfl (Nat.le_of_ble_eq_true rfl) d_OP_init_6 (fun H locs hP hD hS => ?_)
  have hP : va_P (dC, dI) vwCl [(x, .inr (4, [.int kk, .null, .null, .null]))] H := hP
  have hD : va_D A [(x, .inr (4, [.int kk, .null, .null, .null]))] := hD
  refine lv_aload_n hx hb d_OP_init_9 rfl (lv_at hl 0 rfl) ?_
  refine lv_aload_n hx hb d_OP_init_10 rfl (lv_at hl 2 rfl) ?_
  refine va_putF (D := (dC, dI)) (ci := 4) (v := .ref pa) (ty := (.object "PatchStore$Pointer")) (C := R_OP) (T := T_OP) (N := 4) hx hb htb in_OP ty_OP ty_OP_ok nm_OP hown hK hP hD hS 0 rfl rfl 1 (by decide) (htb _ m_732) (fun _ h9 => h9) rfl hin rfl (by decide +kernel) rfl rfl (Nat.le_of_ble_eq_true rfl) d_OP_init_11 (fun H locs hP hD hS => ?_)
  have hP : va_P (dC, dI) vwCl [(x, .inr (4, [.int kk, .ref pa, .null, .null]))] H := hP
  have hD : va_D A [(x, .inr (4, [.int kk, .ref pa, .null, .null]))] := hD
  refine lv_aload_n hx hb d_OP_init_14 rfl (lv_at hl 0 rfl) ?_
  refine lv_aload_nN hx hb d_OP_init_15 rfl (lv_at hl 3 rfl) ?_
  refine va_putF (D := (dC, dI)) (ci := 4) (v := .null) (ty := (.object "PatchStore$Pointer")) (C := R_OP) (T := T_OP) (N := 4) hx hb htb in_OP ty_OP ty_OP_ok nm_OP hown hK hP hD hS 0 rfl rfl 2 (by decide) (htb _ m_734) (fun _ h9 => h9) rfl hin rfl (by decide +kernel) rfl rfl (Nat.le_of_ble_eq_true rfl) d_OP_init_16 (fun H locs hP hD hS => ?_)
  have hP : va_P (dC, dI) vwCl [(x, .inr (4, [.int kk, .ref pa, .null, .null]))] H := hP
  have hD : va_D A [(x, .inr (4, [.int kk, .ref pa, .null, .null]))] := hD
  refine lv_aload_n hx hb d_OP_init_19 rfl (lv_at hl 0 rfl) ?_
  refine lv_aload hx hb d_OP_init_20 (lv_at hl 4 rfl) ?_
  refine va_putF (D := (dC, dI)) (ci := 4) (v := .ref yv) (ty := (.object "PatchStore$Value")) (C := R_OP) (T := T_OP) (N := 4) hx hb htb in_OP ty_OP ty_OP_ok nm_OP hown hK hP hD hS 0 rfl rfl 3 (by decide) (htb _ m_736) (fun _ h9 => h9) rfl hin rfl (by decide +kernel) rfl rfl (Nat.le_of_ble_eq_true rfl) d_OP_init_22 (fun H locs hP hD hS => ?_)
  have hP : va_P (dC, dI) vwCl [(x, .inr (4, [.int kk, .ref pa, .null, .ref yv]))] H := hP
  have hD : va_D A [(x, .inr (4, [.int kk, .ref pa, .null, .ref yv]))] := hD
  have hP9 := hP.sub (ws' := [(x, .inr (4, [.int kk, .ref pa, .null, .ref yv]))]) [0] rfl
  have hD9 := hD.sub (ws' := [(x, .inr (4, [.int kk, .ref pa, .null, .ref yv]))]) [0] (by decide) rfl
  have hK9 := hK.sub (tys' := []) [] rfl
  refine W.widen (k := 0) (n := 0) (Nat.le_of_ble_eq_true rfl) (Nat.le_of_ble_eq_true rfl) ?_
  exact W.vret hx hb hr (fun t ht hW => ⟨⟨(), rfl, trivial, ⟨by rw [ht]; exact hP9, va_K.moved hW.alike hK9, hD9⟩⟩, hS.F ht⟩) hS.2.2 d_OP_init_25
