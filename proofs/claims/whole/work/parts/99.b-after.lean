theorem aft_4 {o : Opn} {w : List Row} (h : o.1 = 4) : aftR o w = aftR (4, o.2.1, o.2.2.1, []) w := by
  unfold aftR; rw [if_pos h, if_pos rfl]
theorem aft_5 {o : Opn} {w : List Row} (h : o.1 = 5) : aftR o w = (match trg o.2.2.1 w with
    | none => (6, [])
    | some m => edR (edt 1 m o.2.1 w)) := by
  unfold aftR; rw [if_neg (by omega), if_pos h]; rfl
theorem aft_6 {o : Opn} {w : List Row} (h : o.1 = 6) : aftR o w = (match trg o.2.1 w with
    | none => (6, [])
    | some m => if smR 30 m o.2.2.2 = true then (0, w) else (7, [])) := by
  unfold aftR; rw [if_neg (by omega), if_neg (by omega), if_pos h]; rfl
theorem aft_e {o : Opn} {w : List Row} (h : o.1 = 1 ∨ o.1 = 2 ∨ o.1 = 3) : aftR o w = edR (edt o.1 o.2.2.2 o.2.1 w) := by
  unfold aftR; rw [if_neg (by omega), if_neg (by omega), if_neg (by omega)]
theorem edt_2v {v v2 : List Row} : ∀ (ss : List (List Nat)) (w : List Row), edt 2 v ss w = edt 2 v2 ss w
  | [], w => rfl
  | s :: ss, w => by
    rw [edt, edt]
    split
    · unfold ed1
      rw [if_neg (by decide), if_neg (by decide)]
      congr 1
    · congr 1
      funext t
      rw [edt_2v ss]
set_option maxHeartbeats 1000000 in
set_option maxRecDepth 100000 in
/-- after(operation) -/
theorem k_PA_after (l : Launch) (dC : Nat → ClassId) (dI : Nat → Nat → Nat) (sz : Nat) (x : Nat) (lim : Nat) (rm : Nat) (y : Nat) (d : Nat) (n0 : List Nat) (w0 : List Row) (o : Nat) (op : Opn) (cB : ClassId) (cO : ClassId) (em : Nat) (aK : Nat → Nat) (aV : Nat → Nat) (fz : va_W) (hv : VT cB cO em aK d fz y n0 w0) (hsz : w0.length ≤ 32) (hd : d ≤ 12) (hop : OPz cB cO em aK fz op o) (hp9 : op.2.1.length ≤ 160) (hf9 : op.2.2.1.length ≤ 160) : Met l y_PA_after ws_PA_after ({ frames := 410, cells := (7 * (op.2.2.1.length + op.2.1.length)), slots := (97 * (op.2.2.1.length + op.2.1.length)), locals := 14100 }) (va_Pc [.ref x, .ref o] (fun U => U.heap.size = sz ∧ va_P (dC, dI) vwCl ([(x, .inr (6, [.int (nI lim), .int (nI rm), .ref y, .int 6]))] ++ fz) U.heap ∧ va_K (dC, dI) vwCl [(cB, .byte), (cO, .object "java/lang/Object")] U ∧ va_D (fun _ => True) ([(x, .inr (6, [.int (nI lim), .int (nI rm), .ref y, .int 6]))] ++ fz) ∧ EX em aK aV (va_A ([(x, .inr (6, [.int (nI lim), .int (nI rm), .ref y, .int 6]))] ++ fz) sz) U U.heap)) (va_Qq (fun (r : Option Nat) (u : Int32 × va_W) => (r = none ∧ ¬ (aftR op w0).1 = 0 ∧ (aftR op w0).1 ≤ 7 ∧ u.1 = nI (aftR op w0).1) ∨ ∃ y8 n8 w8, r = some y8 ∧ (aftR op w0) = (0, w8) ∧ u.1 = 6 ∧ VT cB cO em aK 30 (u.2 ++ fz) y8 n8 w8) (fun u t => va_P (dC, dI) vwCl ([(x, .inr (6, [.int (nI lim), .int (nI rm), .ref y, .int u.1]))] ++ (u.2 ++ fz)) t.heap ∧ va_K (dC, dI) vwCl [(cB, .byte), (cO, .object "java/lang/Object")] t ∧ va_D (va_A ([(x, .inr (6, [.int (nI lim), .int (nI rm), .ref y, .int 6]))] ++ fz) sz) ([(x, .inr (6, [.int (nI lim), .int (nI rm), .ref y, .int u.1]))] ++ (u.2 ++ fz))) (va_A ([(x, .inr (6, [.int (nI lim), .int (nI rm), .ref y, .int 6]))] ++ fz) sz)) (7 * (op.2.2.1.length + op.2.1.length)) (97 * (op.2.2.1.length + op.2.1.length)) (va_A ([(x, .inr (6, [.int (nI lim), .int (nI rm), .ref y, .int 6]))] ++ fz) sz) := by
  refine Met.ofW (cc := c_PA_after) (maxL := 3) (ret := (some (.object "PatchStore$Value"))) (by decide) rfl ?_
  intro p e s m args below meth c s₁ B hml hv
  obtain ⟨hargs, hsz, hP, hK, hD0, hE⟩ := hv
  rw [show entryFrame m args 3 = entryFrame m ([.ref x, .ref o]).toArray 3 by rw [hargs]]
  have hx := B.exec
  have hb := B.bytes
  have hr := B.returns
  have hts := atoms_spec (ws := ws_PA_after) B.pre
  have htb := fun w (h : w ∈ TBL) => hts w (List.mem_cons_of_mem _ h)
  have hown : s.vm.findClass R_PA = some m.cls := findClass_of_methodNamed B.named
  have hlocks := B.notSynchronized
  subst hsz
  have hD := hD0.self (sz := s.heap.size)
  generalize hAe : va_A ([(x, .inr (6, [.int (nI lim), .int (nI rm), .ref y, .int 6]))] ++ fz) s.heap.size = A at hD hE ⊢
  have hA : ∀ q : Nat, s.heap.size ≤ q → A q := fun q h => by rw [← hAe]; exact Or.inr h
  have hS : va_S A s.heap s.heap [] := va_S.rf
  have hP : va_P (dC, dI) vwCl ([(x, .inr (6, [.int (nI lim), .int (nI rm), .ref y, .int 6]))] ++ fz) s.heap := hP
  have hl := lv_entry ([.ref x, .ref o]) (n := 3) (Nat.le_of_ble_eq_true rfl)
  rw [lg_entry_eq]
  generalize (lg_sl ([.ref x, .ref o]) ++ List.replicate (3 - (lg_sl ([.ref x, .ref o])).length) Slot.unset).toArray = ls at hl ⊢
  have hl : lv_has ls 3 [(0, .ref x), (1, .ref o)] := hl
  refine zz_nQ (fun Q hQ => ?_)
  obtain ⟨pa, hpp, ⟨hk | hk, fa, hoc, hfp⟩ | ⟨hk, hoc⟩ | ⟨hk | hk | hk, va, nv, dv, hoc, hvv, hdv⟩⟩ := hop
  · have hae := aft_4 (w := w0) hk
    refine lv_aload_n hx hb d_PA_after_0 rfl (lv_at hl 1 rfl) ?_
    obtain ⟨qz1, hz1⟩ := List.getElem?_of_mem (List.mem_append_right [(x, .inr (6, [.int (nI lim), .int (nI rm), .ref y, .int 6]))] hoc)
    refine va_get (D := (dC, dI)) (ci := 4) (v := .int (nI op.1)) (C := R_OP) (T := T_OP) (N := 4) hx hb htb in_OP hown hK hP qz1 hz1 rfl 0 (by decide) (htb _ m_731) (fun _ h9 => h9) rfl d_PA_after_1 ?_
    refine W.eq (congrArg (fun z => F0 m 4 ls (.int z :: [])) (by rw [hk] : (nI op.1) = nI 4)) ?_
    refine lv_tableIn (tgt := 32) hx hb d_PA_after_4 (by decide) (by decide) rfl rfl ?_
    refine lv_aload_n hx hb d_PA_after_32 rfl (lv_at hl 0 rfl) ?_
    refine lv_aload_n hx hb d_PA_after_33 rfl (lv_at hl 1 rfl) ?_
    obtain ⟨qz2, hz2⟩ := List.getElem?_of_mem (List.mem_append_right [(x, .inr (6, [.int (nI lim), .int (nI rm), .ref y, .int 6]))] hoc)
    refine va_get (D := (dC, dI)) (ci := 4) (v := .ref fa) (C := R_OP) (T := T_OP) (N := 4) hx hb htb in_OP hown hK hP qz2 hz2 rfl 2 (by decide) (htb _ m_735) (fun _ h9 => h9) rfl d_PA_after_34 ?_
    refine lv_aload_n hx hb d_PA_after_37 rfl (lv_at hl 1 rfl) ?_
    obtain ⟨qz3, hz3⟩ := List.getElem?_of_mem (List.mem_append_right [(x, .inr (6, [.int (nI lim), .int (nI rm), .ref y, .int 6]))] hoc)
    refine va_get (D := (dC, dI)) (ci := 4) (v := .ref pa) (C := R_OP) (T := T_OP) (N := 4) hx hb htb in_OP hown hK hP qz3 hz3 rfl 1 (by decide) (htb _ m_733) (fun _ h9 => h9) rfl d_PA_after_38 ?_
    have hPc := zz_pickP (pre := [(x, .inr (6, [.int (nI lim), .int (nI rm), .ref y, .int 6]))]) (fz := fz) (wc := [(x, .inr (6, [.int (nI lim), .int (nI rm), .ref y, .int 6]))]) hP [0] rfl
    have hDc := zz_pickD (pre := [(x, .inr (6, [.int (nI lim), .int (nI rm), .ref y, .int 6]))]) (fz := fz) (wc := [(x, .inr (6, [.int (nI lim), .int (nI rm), .ref y, .int 6]))]) hD [0] (by decide) rfl
    have hFc := zz_free (pre := [(x, .inr (6, [.int (nI lim), .int (nI rm), .ref y, .int 6]))]) (fz := fz) (wc := [(x, .inr (6, [.int (nI lim), .int (nI rm), .ref y, .int 6]))]) hD hS hA [0] rfl
    have hKc := hK.sub (tys' := [(cB, .byte), (cO, .object "java/lang/Object")]) [0, 1] rfl
    refine va_callq (va_runV (As := [.ref fa, .ref pa]) (rest := []) ⟨hx, hb, hml, hown, htb⟩ (k_PA_afterMove l dC dI _ x lim rm y d n0 w0 fa op.2.2.1 pa op.2.1 cB cO em aK aV fz hv hsz hd hfp hpp hf9 hp9) (cwV 2 htb (g_V (fun _ h => h) m_783 m_780 m_782 m_1635 m_23) rfl rfl rfl (by decide +kernel) ⟨Nat.le_of_ble_eq_true rfl, Nat.le_of_ble_eq_true rfl⟩) ⟨fun a U g mk q => by obtain ⟨q0, q1, qP, qK, qD, z0⟩ := q; exact ⟨q0, q1, qP, va_K.moved (u := U) (U := U.calling g mk a) (Vm.Alike.refl U.vm) qK, qD, EX.same (U := U) (U' := U.calling g mk a) rfl z0⟩, va_recv hK hP (ci := 6) rfl (q0 := 0) rfl, fun U hU hW => ⟨rfl, by rw [hU], by rw [hU]; exact hPc, va_K.moved hW.alike hKc, hDc.weaken (fun _ _ _ _ => trivial), by rw [hU]; exact EX.warm hW ((hE.kept (fun a h1 h2 => hS.2.1 a h1 h2)).narrow hFc)⟩⟩ rfl rfl hl.1 rfl (lv_room (Nat.le_of_ble_eq_true rfl)) d_PA_after_41 ⟨(by show (0 + (7 * (op.2.2.1.length + op.2.1.length))) ≤ (7 * (op.2.2.1.length + op.2.1.length)); omega), (by show (0 + (97 * (op.2.2.1.length + op.2.1.length))) ≤ (97 * (op.2.2.1.length + op.2.1.length)); omega)⟩) hS (fun q _ h => hFc q h) hFc (fun r5 u4 t H1 locs ht hvm hw6 hB hz1 hk1 hS => ?_)
    obtain ⟨hP1, hK1, hD1⟩ := hB
    rw [ht] at hP1
    have hK1 := va_K.moved hvm.symm hK1
    have hw6 : (r5 = none ∧ (aftR (4, op.2.1, op.2.2.1, []) w0).1 = 6) ∨ ∃ y8 n8 w8, r5 = some y8 ∧ (aftR (4, op.2.1, op.2.2.1, []) w0) = (0, w8) ∧ VT cB cO em aK 30 (u4 ++ fz) y8 n8 w8 := hw6
    obtain ⟨hP, hD⟩ := zz_join (pre := [(x, .inr (6, [.int (nI lim), .int (nI rm), .ref y, .int 6]))]) (fz := fz) (wc := [(x, .inr (6, [.int (nI lim), .int (nI rm), .ref y, .int 6]))]) (wr := []) (w1 := ([(x, .inr (6, [.int (nI lim), .int (nI rm), .ref y, .int 6]))] ++ (u4 ++ fz))) hP hD [0] [] rfl rfl (by decide) (by decide) hk1 hFc hP1 hD1
    have hK := (hK.sub (tys' := []) [] rfl).app hK1
    generalize H1 = H at hP hS ⊢
    have hP : va_P (dC, dI) vwCl ([(x, .inr (6, [.int (nI lim), .int (nI rm), .ref y, .int 6]))] ++ (u4 ++ fz)) H := hP
    have hD : va_D A ([(x, .inr (6, [.int (nI lim), .int (nI rm), .ref y, .int 6]))] ++ (u4 ++ fz)) := hD
    have hK : va_K (dC, dI) vwCl [(cB, .byte), (cO, .object "java/lang/Object")] s := hK
    obtain ⟨rfl, he⟩ | ⟨y5, n5, w5, rfl, he, hv5⟩ := hw6
    · refine W.eq (g2 := F0 m 44 ls [.null]) rfl ?_
      have hP9 := zz_pickP (pre := [(x, .inr (6, [.int (nI lim), .int (nI rm), .ref y, .int 6]))]) (fz := (u4 ++ fz)) (wc := [(x, .inr (6, [.int (nI lim), .int (nI rm), .ref y, .int 6]))]) hP [0] rfl
      have hD9 := zz_pickD (pre := [(x, .inr (6, [.int (nI lim), .int (nI rm), .ref y, .int 6]))]) (fz := (u4 ++ fz)) (wc := [(x, .inr (6, [.int (nI lim), .int (nI rm), .ref y, .int 6]))]) hD [0] (by decide) rfl
      have hK9 := hK.sub (tys' := [(cB, .byte), (cO, .object "java/lang/Object")]) [0, 1] rfl
      rw [hQ]
      refine W.widen (k := (7 * (op.2.2.1.length + op.2.1.length))) (n := (97 * (op.2.2.1.length + op.2.1.length))) ((by show (0 + (7 * (op.2.2.1.length + op.2.1.length))) ≤ (7 * (op.2.2.1.length + op.2.1.length)); omega)) ((by show (0 + (97 * (op.2.2.1.length + op.2.1.length))) ≤ (97 * (op.2.2.1.length + op.2.1.length)); omega)) ?_
      exact W.aret (v := .null) hx hb hr (Or.inl ⟨_, rfl⟩) (Or.inl rfl) (fun t ht hW => ⟨⟨none, ((6 : Int32), u4), rfl, Or.inl ⟨rfl, by rw [hae, he]; decide, by rw [hae, he]; decide, by rw [hae, he]; rfl⟩, ⟨by rw [ht]; exact hP9, va_K.moved hW.alike hK9, hD9⟩⟩, hS.F ht⟩) hS.2.2 d_PA_after_44
    · refine W.eq (g2 := F0 m 44 ls [.ref y5]) rfl ?_
      have hP9 := zz_pickP (pre := [(x, .inr (6, [.int (nI lim), .int (nI rm), .ref y, .int 6]))]) (fz := (u4 ++ fz)) (wc := [(x, .inr (6, [.int (nI lim), .int (nI rm), .ref y, .int 6]))]) hP [0] rfl
      have hD9 := zz_pickD (pre := [(x, .inr (6, [.int (nI lim), .int (nI rm), .ref y, .int 6]))]) (fz := (u4 ++ fz)) (wc := [(x, .inr (6, [.int (nI lim), .int (nI rm), .ref y, .int 6]))]) hD [0] (by decide) rfl
      have hK9 := hK.sub (tys' := [(cB, .byte), (cO, .object "java/lang/Object")]) [0, 1] rfl
      rw [hQ]
      refine W.widen (k := (7 * (op.2.2.1.length + op.2.1.length))) (n := (97 * (op.2.2.1.length + op.2.1.length))) ((by show (0 + (7 * (op.2.2.1.length + op.2.1.length))) ≤ (7 * (op.2.2.1.length + op.2.1.length)); omega)) ((by show (0 + (97 * (op.2.2.1.length + op.2.1.length))) ≤ (97 * (op.2.2.1.length + op.2.1.length)); omega)) ?_
      exact W.aret (v := .ref y5) hx hb hr (Or.inl ⟨_, rfl⟩) (Or.inr ⟨_, rfl⟩) (fun t ht hW => ⟨⟨(some y5), ((6 : Int32), u4), rfl, Or.inr ⟨_, _, _, rfl, by rw [hae, he], rfl, hv5⟩, ⟨by rw [ht]; exact hP9, va_K.moved hW.alike hK9, hD9⟩⟩, hS.F ht⟩) hS.2.2 d_PA_after_44
  · have hae := aft_5 (w := w0) hk
    refine lv_aload_n hx hb d_PA_after_0 rfl (lv_at hl 1 rfl) ?_
    obtain ⟨qz1, hz1⟩ := List.getElem?_of_mem (List.mem_append_right [(x, .inr (6, [.int (nI lim), .int (nI rm), .ref y, .int 6]))] hoc)
    refine va_get (D := (dC, dI)) (ci := 4) (v := .int (nI op.1)) (C := R_OP) (T := T_OP) (N := 4) hx hb htb in_OP hown hK hP qz1 hz1 rfl 0 (by decide) (htb _ m_731) (fun _ h9 => h9) rfl d_PA_after_1 ?_
    refine W.eq (congrArg (fun z => F0 m 4 ls (.int z :: [])) (by rw [hk] : (nI op.1) = nI 5)) ?_
    refine lv_tableIn (tgt := 45) hx hb d_PA_after_4 (by decide) (by decide) rfl rfl ?_
    refine lv_aload_n hx hb d_PA_after_45 rfl (lv_at hl 1 rfl) ?_
    obtain ⟨qz2, hz2⟩ := List.getElem?_of_mem (List.mem_append_right [(x, .inr (6, [.int (nI lim), .int (nI rm), .ref y, .int 6]))] hoc)
    refine va_get (D := (dC, dI)) (ci := 4) (v := .ref fa) (C := R_OP) (T := T_OP) (N := 4) hx hb htb in_OP hown hK hP qz2 hz2 rfl 2 (by decide) (htb _ m_735) (fun _ h9 => h9) rfl d_PA_after_46 ?_
    refine lv_aload_n hx hb d_PA_after_49 rfl (lv_at hl 0 rfl) ?_
    refine va_get (D := (dC, dI)) (ci := 6) (v := .ref y) (C := R_PA) (T := T_PA) (N := 4) hx hb htb in_PA hown hK hP 0 rfl rfl 2 (by decide) (htb _ m_757) (fun _ h9 => h9) rfl d_PA_after_50 ?_
    have hPc := zz_pickP (pre := [(x, .inr (6, [.int (nI lim), .int (nI rm), .ref y, .int 6]))]) (fz := fz) (wc := []) hP [] rfl
    have hDc := zz_pickD (pre := [(x, .inr (6, [.int (nI lim), .int (nI rm), .ref y, .int 6]))]) (fz := fz) (wc := []) hD [] (by decide) rfl
    have hFc := zz_free (pre := [(x, .inr (6, [.int (nI lim), .int (nI rm), .ref y, .int 6]))]) (fz := fz) (wc := []) hD hS hA [] rfl
    have hKc := hK.sub (tys' := [(cB, .byte), (cO, .object "java/lang/Object")]) [0, 1] rfl
    refine va_callq (va_runV (As := [.ref y]) (rest := []) ⟨hx, hb, hml, hown, htb⟩ (k_PT_target l dC dI _ y d n0 w0 fa op.2.2.1 cB cO em aK aV fz hv hfp) (cwV 1 htb (g_V (fun _ h => h) m_787 m_784 m_785 m_786 m_21) rfl rfl rfl (by decide +kernel) ⟨Nat.le_of_ble_eq_true rfl, Nat.le_of_ble_eq_true rfl⟩) ⟨fun a U g mk q => by obtain ⟨q0, q1, qP, qK, qD, z0⟩ := q; exact ⟨q0, q1, qP, va_K.moved (u := U) (U := U.calling g mk a) (Vm.Alike.refl U.vm) qK, qD, EX.same (U := U) (U' := U.calling g mk a) rfl z0⟩, zz_recv hK hP (ci := 5) rfl (List.mem_append_right _ hfp.cell.choose_spec), fun U hU hW => ⟨rfl, by rw [hU], by rw [hU]; exact hPc, va_K.moved hW.alike hKc, hDc.weaken (fun _ _ _ _ => trivial), by rw [hU]; exact EX.warm hW ((hE.kept (fun a h1 h2 => hS.2.1 a h1 h2)).narrow hFc)⟩⟩ rfl rfl hl.1 rfl (lv_room (Nat.le_of_ble_eq_true rfl)) d_PA_after_53 ⟨(by show 0 ≤ (7 * (op.2.2.1.length + op.2.1.length)); omega), (by show 0 ≤ (97 * (op.2.2.1.length + op.2.1.length)); omega)⟩) hS (fun q _ h => hFc q h) hFc (fun r4 u3 t H1 locs ht hvm hw5 hB hz1 hk1 hS => ?_)
    obtain ⟨hP1, hK1, hD1⟩ := hB
    rw [ht] at hP1
    have hK1 := va_K.moved hvm.symm hK1
    have hw5 : (r4 = none ∧ trg op.2.2.1 w0 = none) ∨ ∃ y8 n8 w8 d8, r4 = some y8 ∧ trg op.2.2.1 w0 = some w8 ∧ d8 ≤ d ∧ VT cB cO em aK d8 fz y8 n8 w8 := hw5
    obtain ⟨hP, hD⟩ := zz_join (pre := [(x, .inr (6, [.int (nI lim), .int (nI rm), .ref y, .int 6]))]) (fz := fz) (wc := []) (wr := [(x, .inr (6, [.int (nI lim), .int (nI rm), .ref y, .int 6]))]) (w1 := ([] ++ fz)) hP hD [] [0] rfl rfl (by decide) (by decide) hk1 hFc hP1 hD1
    have hK := (hK.sub (tys' := []) [] rfl).app hK1
    generalize H1 = H at hP hS ⊢
    have hP : va_P (dC, dI) vwCl ([(x, .inr (6, [.int (nI lim), .int (nI rm), .ref y, .int 6]))] ++ fz) H := hP
    have hD : va_D A ([(x, .inr (6, [.int (nI lim), .int (nI rm), .ref y, .int 6]))] ++ fz) := hD
    have hK : va_K (dC, dI) vwCl [(cB, .byte), (cO, .object "java/lang/Object")] s := hK
    obtain ⟨rfl, htg⟩ | ⟨ym, nm, wm, dm, rfl, htg, hdm, hvq⟩ := hw5
    · refine W.eq (g2 := F0 m 56 ls [.null]) rfl ?_
      refine lv_astore_nN hx hb d_PA_after_56 rfl hl (by decide) rfl (fun ls hl => ?_)
      have hl : lv_has ls 3 [(2, .null), (0, .ref x), (1, .ref o)] := hl
      refine lv_aload_nN hx hb d_PA_after_57 rfl (lv_at hl 0 rfl) ?_
      refine lv_ifnonnullN hx hb d_PA_after_58 ?_
      refine lv_null hx hb d_PA_after_61 ?_
      refine lv_goto (tgt := 78) hx hb d_PA_after_62 rfl ?_
      have hae : (aftR op w0) = (6, []) := by simp only [hae, htg]
      have hP9 := zz_pickP (pre := [(x, .inr (6, [.int (nI lim), .int (nI rm), .ref y, .int 6]))]) (fz := fz) (wc := [(x, .inr (6, [.int (nI lim), .int (nI rm), .ref y, .int 6]))]) hP [0] rfl
      have hD9 := zz_pickD (pre := [(x, .inr (6, [.int (nI lim), .int (nI rm), .ref y, .int 6]))]) (fz := fz) (wc := [(x, .inr (6, [.int (nI lim), .int (nI rm), .ref y, .int 6]))]) hD [0] (by decide) rfl
      have hK9 := hK.sub (tys' := [(cB, .byte), (cO, .object "java/lang/Object")]) [0, 1] rfl
      rw [hQ]
      refine W.widen (k := (7 * (op.2.2.1.length + op.2.1.length))) (n := (97 * (op.2.2.1.length + op.2.1.length))) ((by show 0 ≤ (7 * (op.2.2.1.length + op.2.1.length)); omega)) ((by show 0 ≤ (97 * (op.2.2.1.length + op.2.1.length)); omega)) ?_
      exact W.aret (v := .null) hx hb hr (Or.inl ⟨_, rfl⟩) (Or.inl rfl) (fun t ht hW => ⟨⟨none, ((6 : Int32), ([] : va_W)), rfl, Or.inl ⟨rfl, by rw [hae]; decide, by rw [hae]; decide, by rw [hae]; rfl⟩, ⟨by rw [ht]; exact hP9, va_K.moved hW.alike hK9, hD9⟩⟩, hS.F ht⟩) hS.2.2 d_PA_after_78
    · refine W.eq (g2 := F0 m 56 ls [.ref ym]) rfl ?_
      have hae : (aftR op w0) = edR (edt 1 wm op.2.1 w0) := by simp only [hae, htg]
      refine lv_astore_n hx hb d_PA_after_56 rfl hl (by decide) rfl (fun ls hl => ?_)
      have hl : lv_has ls 3 [(2, .ref ym), (0, .ref x), (1, .ref o)] := hl
      refine lv_aload_n hx hb d_PA_after_57 rfl (lv_at hl 0 rfl) ?_
      refine lv_ifnonnull (tgt := 65) hx hb d_PA_after_58 rfl ?_
      refine lv_aload_n hx hb d_PA_after_65 rfl (lv_at hl 1 rfl) ?_
      refine va_get (D := (dC, dI)) (ci := 6) (v := .ref y) (C := R_PA) (T := T_PA) (N := 4) hx hb htb in_PA hown hK hP 0 rfl rfl 2 (by decide) (htb _ m_757) (fun _ h9 => h9) rfl d_PA_after_66 ?_
      refine lv_aload_n hx hb d_PA_after_69 rfl (lv_at hl 2 rfl) ?_
      obtain ⟨qz7, hz7⟩ := List.getElem?_of_mem (List.mem_append_right [(x, .inr (6, [.int (nI lim), .int (nI rm), .ref y, .int 6]))] hoc)
      refine va_get (D := (dC, dI)) (ci := 4) (v := .ref pa) (C := R_OP) (T := T_OP) (N := 4) hx hb htb in_OP hown hK hP qz7 hz7 rfl 1 (by decide) (htb _ m_733) (fun _ h9 => h9) rfl d_PA_after_70 ?_
      refine lv_iconst (v := 1) hx hb d_PA_after_73 (by decide) ?_
      refine lv_aload_n hx hb d_PA_after_74 rfl (lv_at hl 0 rfl) ?_
      refine W.eq (g2 := F0 m 75 ls [.ref ym, .int (nI 1), .ref pa, .ref y]) rfl ?_
      have hPc := zz_pickP (pre := [(x, .inr (6, [.int (nI lim), .int (nI rm), .ref y, .int 6]))]) (fz := fz) (wc := []) hP [] rfl
      have hDc := zz_pickD (pre := [(x, .inr (6, [.int (nI lim), .int (nI rm), .ref y, .int 6]))]) (fz := fz) (wc := []) hD [] (by decide) rfl
      have hFc := zz_free (pre := [(x, .inr (6, [.int (nI lim), .int (nI rm), .ref y, .int 6]))]) (fz := fz) (wc := []) hD hS hA [] rfl
      have hKc := hK.sub (tys' := [(cB, .byte), (cO, .object "java/lang/Object")]) [0, 1] rfl
      refine va_callq (va_runS (As := [.ref y, .ref pa, .int (nI 1), .ref ym]) (rest := []) ⟨hx, hb, hml, hown, htb⟩ (all_PA_editedV op.2.1 l dC dI _ y d n0 w0 pa 1 ym dm nm wm cB cO em aK aV fz hv hpp (by omega) (by omega) (Or.inl rfl) hvq) (va_cwS 4 htb (g_S (fun _ h => h) m_806 m_804 m_805 m_23) rfl rfl rfl (by decide +kernel) ⟨(by show ((20 + 2 * op.2.1.length) + 1) ≤ 410; omega), (by show (27 + (500 + 80 * op.2.1.length)) ≤ 14100; omega)⟩) ⟨fun a U g mk q => by obtain ⟨q0, q1, qP, qK, qD, z0⟩ := q; exact ⟨q0, q1, qP, va_K.moved (u := U) (U := U.calling g mk a) (Vm.Alike.refl U.vm) qK, qD, EX.same (U := U) (U' := U.calling g mk a) rfl z0⟩, fun U hU hW => ⟨rfl, by rw [hU], by rw [hU]; exact hPc, va_K.moved hW.alike hKc, hDc.weaken (fun _ _ _ _ => trivial), by rw [hU]; exact EX.warm hW ((hE.kept (fun a h1 h2 => hS.2.1 a h1 h2)).narrow hFc)⟩⟩ rfl rfl hl.1 rfl (lv_room (Nat.le_of_ble_eq_true rfl)) d_PA_after_75 ⟨(by show (0 + (7 * op.2.1.length)) ≤ (7 * (op.2.2.1.length + op.2.1.length)); omega), (by show (0 + (97 * op.2.1.length)) ≤ (97 * (op.2.2.1.length + op.2.1.length)); omega)⟩) hS (fun q _ h => hFc q h) hFc (fun r9 u8 t H1 locs ht hvm hw10 hB hz1 hk1 hS => ?_)
      obtain ⟨hP1, hK1, hD1⟩ := hB
      rw [ht] at hP1
      have hK1 := va_K.moved hvm.symm hK1
      have hw10 : (r9 = none ∧ edt 1 wm op.2.1 w0 = none) ∨ ∃ y8 n8 w8, r9 = some y8 ∧ edt 1 wm op.2.1 w0 = some w8 ∧ VT cB cO em aK (d + dm) (u8 ++ fz) y8 n8 w8 := hw10
      obtain ⟨hP, hD⟩ := zz_join (pre := [(x, .inr (6, [.int (nI lim), .int (nI rm), .ref y, .int 6]))]) (fz := fz) (wc := []) (wr := [(x, .inr (6, [.int (nI lim), .int (nI rm), .ref y, .int 6]))]) (w1 := ([] ++ (u8 ++ fz))) hP hD [] [0] rfl rfl (by decide) (by decide) hk1 hFc hP1 hD1
      have hK := (hK.sub (tys' := []) [] rfl).app hK1
      generalize H1 = H at hP hS ⊢
      have hP : va_P (dC, dI) vwCl ([(x, .inr (6, [.int (nI lim), .int (nI rm), .ref y, .int 6]))] ++ (u8 ++ fz)) H := hP
      have hD : va_D A ([(x, .inr (6, [.int (nI lim), .int (nI rm), .ref y, .int 6]))] ++ (u8 ++ fz)) := hD
      have hK : va_K (dC, dI) vwCl [(cB, .byte), (cO, .object "java/lang/Object")] s := hK
      obtain ⟨rfl, he5⟩ | ⟨y5, n5, w5, rfl, he5, hv5⟩ := hw10
      · refine W.eq (g2 := F0 m 78 ls [.null]) rfl ?_
        have hae : (aftR op w0) = (6, []) := by rw [hae, he5]; rfl
        have hP9 := zz_pickP (pre := [(x, .inr (6, [.int (nI lim), .int (nI rm), .ref y, .int 6]))]) (fz := (u8 ++ fz)) (wc := [(x, .inr (6, [.int (nI lim), .int (nI rm), .ref y, .int 6]))]) hP [0] rfl
        have hD9 := zz_pickD (pre := [(x, .inr (6, [.int (nI lim), .int (nI rm), .ref y, .int 6]))]) (fz := (u8 ++ fz)) (wc := [(x, .inr (6, [.int (nI lim), .int (nI rm), .ref y, .int 6]))]) hD [0] (by decide) rfl
        have hK9 := hK.sub (tys' := [(cB, .byte), (cO, .object "java/lang/Object")]) [0, 1] rfl
        rw [hQ]
        refine W.widen (k := (7 * (op.2.2.1.length + op.2.1.length))) (n := (97 * (op.2.2.1.length + op.2.1.length))) ((by show (0 + (7 * op.2.1.length)) ≤ (7 * (op.2.2.1.length + op.2.1.length)); omega)) ((by show (0 + (97 * op.2.1.length)) ≤ (97 * (op.2.2.1.length + op.2.1.length)); omega)) ?_
        exact W.aret (v := .null) hx hb hr (Or.inl ⟨_, rfl⟩) (Or.inl rfl) (fun t ht hW => ⟨⟨none, ((6 : Int32), u8), rfl, Or.inl ⟨rfl, by rw [hae]; decide, by rw [hae]; decide, by rw [hae]; rfl⟩, ⟨by rw [ht]; exact hP9, va_K.moved hW.alike hK9, hD9⟩⟩, hS.F ht⟩) hS.2.2 d_PA_after_78
      · refine W.eq (g2 := F0 m 78 ls [.ref y5]) rfl ?_
        have hP9 := zz_pickP (pre := [(x, .inr (6, [.int (nI lim), .int (nI rm), .ref y, .int 6]))]) (fz := (u8 ++ fz)) (wc := [(x, .inr (6, [.int (nI lim), .int (nI rm), .ref y, .int 6]))]) hP [0] rfl
        have hD9 := zz_pickD (pre := [(x, .inr (6, [.int (nI lim), .int (nI rm), .ref y, .int 6]))]) (fz := (u8 ++ fz)) (wc := [(x, .inr (6, [.int (nI lim), .int (nI rm), .ref y, .int 6]))]) hD [0] (by decide) rfl
        have hK9 := hK.sub (tys' := [(cB, .byte), (cO, .object "java/lang/Object")]) [0, 1] rfl
        rw [hQ]
        refine W.widen (k := (7 * (op.2.2.1.length + op.2.1.length))) (n := (97 * (op.2.2.1.length + op.2.1.length))) ((by show (0 + (7 * op.2.1.length)) ≤ (7 * (op.2.2.1.length + op.2.1.length)); omega)) ((by show (0 + (97 * op.2.1.length)) ≤ (97 * (op.2.2.1.length + op.2.1.length)); omega)) ?_
        exact W.aret (v := .ref y5) hx hb hr (Or.inl ⟨_, rfl⟩) (Or.inr ⟨_, rfl⟩) (fun t ht hW => ⟨⟨(some y5), ((6 : Int32), u8), rfl, Or.inr ⟨_, _, _, rfl, by rw [hae, he5]; rfl, rfl, hv5.up (by omega)⟩, ⟨by rw [ht]; exact hP9, va_K.moved hW.alike hK9, hD9⟩⟩, hS.F ht⟩) hS.2.2 d_PA_after_78
  · have hae := aft_e (w := w0) (Or.inr (Or.inl hk))
    rw [hk, edt_2v (v2 := []) op.2.1 w0] at hae
    refine lv_aload_n hx hb d_PA_after_0 rfl (lv_at hl 1 rfl) ?_
    obtain ⟨qz1, hz1⟩ := List.getElem?_of_mem (List.mem_append_right [(x, .inr (6, [.int (nI lim), .int (nI rm), .ref y, .int 6]))] hoc)
    refine va_get (D := (dC, dI)) (ci := 4) (v := .int (nI op.1)) (C := R_OP) (T := T_OP) (N := 4) hx hb htb in_OP hown hK hP qz1 hz1 rfl 0 (by decide) (htb _ m_731) (fun _ h9 => h9) rfl d_PA_after_1 ?_
    refine W.eq (congrArg (fun z => F0 m 4 ls (.int z :: [])) (by rw [hk] : (nI op.1) = nI 2)) ?_
    refine lv_tableOut (tgt := 99) hx hb d_PA_after_4 (by decide) rfl ?_
    refine lv_aload_n hx hb d_PA_after_99 rfl (lv_at hl 0 rfl) ?_
    refine va_get (D := (dC, dI)) (ci := 6) (v := .ref y) (C := R_PA) (T := T_PA) (N := 4) hx hb htb in_PA hown hK hP 0 rfl rfl 2 (by decide) (htb _ m_757) (fun _ h9 => h9) rfl d_PA_after_100 ?_
    refine lv_aload_n hx hb d_PA_after_103 rfl (lv_at hl 1 rfl) ?_
    obtain ⟨qz2, hz2⟩ := List.getElem?_of_mem (List.mem_append_right [(x, .inr (6, [.int (nI lim), .int (nI rm), .ref y, .int 6]))] hoc)
    refine va_get (D := (dC, dI)) (ci := 4) (v := .ref pa) (C := R_OP) (T := T_OP) (N := 4) hx hb htb in_OP hown hK hP qz2 hz2 rfl 1 (by decide) (htb _ m_733) (fun _ h9 => h9) rfl d_PA_after_104 ?_
    refine lv_aload_n hx hb d_PA_after_107 rfl (lv_at hl 1 rfl) ?_
    obtain ⟨qz3, hz3⟩ := List.getElem?_of_mem (List.mem_append_right [(x, .inr (6, [.int (nI lim), .int (nI rm), .ref y, .int 6]))] hoc)
    refine va_get (D := (dC, dI)) (ci := 4) (v := .int (nI op.1)) (C := R_OP) (T := T_OP) (N := 4) hx hb htb in_OP hown hK hP qz3 hz3 rfl 0 (by decide) (htb _ m_731) (fun _ h9 => h9) rfl d_PA_after_108 ?_
    refine lv_aload_n hx hb d_PA_after_111 rfl (lv_at hl 1 rfl) ?_
    obtain ⟨qz4, hz4⟩ := List.getElem?_of_mem (List.mem_append_right [(x, .inr (6, [.int (nI lim), .int (nI rm), .ref y, .int 6]))] hoc)
    refine va_get (D := (dC, dI)) (ci := 4) (v := .null) (C := R_OP) (T := T_OP) (N := 4) hx hb htb in_OP hown hK hP qz4 hz4 rfl 3 (by decide) (htb _ m_737) (fun _ h9 => h9) rfl d_PA_after_112 ?_
    refine W.eq (g2 := F0 m 115 ls [.null, .int 2, .ref pa, .ref y]) (by rw [hk]; rfl) ?_
    have hPc := zz_pickP (pre := [(x, .inr (6, [.int (nI lim), .int (nI rm), .ref y, .int 6]))]) (fz := fz) (wc := []) hP [] rfl
    have hDc := zz_pickD (pre := [(x, .inr (6, [.int (nI lim), .int (nI rm), .ref y, .int 6]))]) (fz := fz) (wc := []) hD [] (by decide) rfl
    have hFc := zz_free (pre := [(x, .inr (6, [.int (nI lim), .int (nI rm), .ref y, .int 6]))]) (fz := fz) (wc := []) hD hS hA [] rfl
    have hKc := hK.sub (tys' := [(cB, .byte), (cO, .object "java/lang/Object")]) [0, 1] rfl
    refine va_callq (va_runS (As := [.ref y, .ref pa, .int 2, .null]) (rest := []) ⟨hx, hb, hml, hown, htb⟩ (all_PA_editedN op.2.1 l dC dI _ y d n0 w0 pa cB cO em aK aV fz hv hpp (by omega) (by omega)) (va_cwS 4 htb (g_S (fun _ h => h) m_806 m_804 m_805 m_23) rfl rfl rfl (by decide +kernel) ⟨(by show ((20 + 2 * op.2.1.length) + 1) ≤ 410; omega), (by show (27 + (500 + 80 * op.2.1.length)) ≤ 14100; omega)⟩) ⟨fun a U g mk q => by obtain ⟨q0, q1, qP, qK, qD, z0⟩ := q; exact ⟨q0, q1, qP, va_K.moved (u := U) (U := U.calling g mk a) (Vm.Alike.refl U.vm) qK, qD, EX.same (U := U) (U' := U.calling g mk a) rfl z0⟩, fun U hU hW => ⟨rfl, by rw [hU], by rw [hU]; exact hPc, va_K.moved hW.alike hKc, hDc.weaken (fun _ _ _ _ => trivial), by rw [hU]; exact EX.warm hW ((hE.kept (fun a h1 h2 => hS.2.1 a h1 h2)).narrow hFc)⟩⟩ rfl rfl hl.1 rfl (lv_room (Nat.le_of_ble_eq_true rfl)) d_PA_after_115 ⟨(by show (0 + (7 * op.2.1.length)) ≤ (7 * (op.2.2.1.length + op.2.1.length)); omega), (by show (0 + (97 * op.2.1.length)) ≤ (97 * (op.2.2.1.length + op.2.1.length)); omega)⟩) hS (fun q _ h => hFc q h) hFc (fun r6 u5 t H1 locs ht hvm hw7 hB hz1 hk1 hS => ?_)
    obtain ⟨hP1, hK1, hD1⟩ := hB
    rw [ht] at hP1
    have hK1 := va_K.moved hvm.symm hK1
    have hw7 : (r6 = none ∧ edt 2 [] op.2.1 w0 = none) ∨ ∃ y8 n8 w8, r6 = some y8 ∧ edt 2 [] op.2.1 w0 = some w8 ∧ VT cB cO em aK d (u5 ++ fz) y8 n8 w8 := hw7
    obtain ⟨hP, hD⟩ := zz_join (pre := [(x, .inr (6, [.int (nI lim), .int (nI rm), .ref y, .int 6]))]) (fz := fz) (wc := []) (wr := [(x, .inr (6, [.int (nI lim), .int (nI rm), .ref y, .int 6]))]) (w1 := ([] ++ (u5 ++ fz))) hP hD [] [0] rfl rfl (by decide) (by decide) hk1 hFc hP1 hD1
    have hK := (hK.sub (tys' := []) [] rfl).app hK1
    generalize H1 = H at hP hS ⊢
    have hP : va_P (dC, dI) vwCl ([(x, .inr (6, [.int (nI lim), .int (nI rm), .ref y, .int 6]))] ++ (u5 ++ fz)) H := hP
    have hD : va_D A ([(x, .inr (6, [.int (nI lim), .int (nI rm), .ref y, .int 6]))] ++ (u5 ++ fz)) := hD
    have hK : va_K (dC, dI) vwCl [(cB, .byte), (cO, .object "java/lang/Object")] s := hK
    obtain ⟨rfl, he5⟩ | ⟨y5, n5, w5, rfl, he5, hv5⟩ := hw7
    · refine W.eq (g2 := F0 m 118 ls [.null]) rfl ?_
      have hae : (aftR op w0) = (6, []) := by rw [hae, he5]; rfl
      have hP9 := zz_pickP (pre := [(x, .inr (6, [.int (nI lim), .int (nI rm), .ref y, .int 6]))]) (fz := (u5 ++ fz)) (wc := [(x, .inr (6, [.int (nI lim), .int (nI rm), .ref y, .int 6]))]) hP [0] rfl
      have hD9 := zz_pickD (pre := [(x, .inr (6, [.int (nI lim), .int (nI rm), .ref y, .int 6]))]) (fz := (u5 ++ fz)) (wc := [(x, .inr (6, [.int (nI lim), .int (nI rm), .ref y, .int 6]))]) hD [0] (by decide) rfl
      have hK9 := hK.sub (tys' := [(cB, .byte), (cO, .object "java/lang/Object")]) [0, 1] rfl
      rw [hQ]
      refine W.widen (k := (7 * (op.2.2.1.length + op.2.1.length))) (n := (97 * (op.2.2.1.length + op.2.1.length))) ((by show (0 + (7 * op.2.1.length)) ≤ (7 * (op.2.2.1.length + op.2.1.length)); omega)) ((by show (0 + (97 * op.2.1.length)) ≤ (97 * (op.2.2.1.length + op.2.1.length)); omega)) ?_
      exact W.aret (v := .null) hx hb hr (Or.inl ⟨_, rfl⟩) (Or.inl rfl) (fun t ht hW => ⟨⟨none, ((6 : Int32), u5), rfl, Or.inl ⟨rfl, by rw [hae]; decide, by rw [hae]; decide, by rw [hae]; rfl⟩, ⟨by rw [ht]; exact hP9, va_K.moved hW.alike hK9, hD9⟩⟩, hS.F ht⟩) hS.2.2 d_PA_after_118
    · refine W.eq (g2 := F0 m 118 ls [.ref y5]) rfl ?_
      have hP9 := zz_pickP (pre := [(x, .inr (6, [.int (nI lim), .int (nI rm), .ref y, .int 6]))]) (fz := (u5 ++ fz)) (wc := [(x, .inr (6, [.int (nI lim), .int (nI rm), .ref y, .int 6]))]) hP [0] rfl
      have hD9 := zz_pickD (pre := [(x, .inr (6, [.int (nI lim), .int (nI rm), .ref y, .int 6]))]) (fz := (u5 ++ fz)) (wc := [(x, .inr (6, [.int (nI lim), .int (nI rm), .ref y, .int 6]))]) hD [0] (by decide) rfl
      have hK9 := hK.sub (tys' := [(cB, .byte), (cO, .object "java/lang/Object")]) [0, 1] rfl
      rw [hQ]
      refine W.widen (k := (7 * (op.2.2.1.length + op.2.1.length))) (n := (97 * (op.2.2.1.length + op.2.1.length))) ((by show (0 + (7 * op.2.1.length)) ≤ (7 * (op.2.2.1.length + op.2.1.length)); omega)) ((by show (0 + (97 * op.2.1.length)) ≤ (97 * (op.2.2.1.length + op.2.1.length)); omega)) ?_
      exact W.aret (v := .ref y5) hx hb hr (Or.inl ⟨_, rfl⟩) (Or.inr ⟨_, rfl⟩) (fun t ht hW => ⟨⟨(some y5), ((6 : Int32), u5), rfl, Or.inr ⟨_, _, _, rfl, by rw [hae, he5]; rfl, rfl, hv5.up (by omega)⟩, ⟨by rw [ht]; exact hP9, va_K.moved hW.alike hK9, hD9⟩⟩, hS.F ht⟩) hS.2.2 d_PA_after_118
  · have hae := aft_e (w := w0) (Or.inl hk)
    rw [hk] at hae
    refine lv_aload_n hx hb d_PA_after_0 rfl (lv_at hl 1 rfl) ?_
    obtain ⟨qz1, hz1⟩ := List.getElem?_of_mem (List.mem_append_right [(x, .inr (6, [.int (nI lim), .int (nI rm), .ref y, .int 6]))] hoc)
    refine va_get (D := (dC, dI)) (ci := 4) (v := .int (nI op.1)) (C := R_OP) (T := T_OP) (N := 4) hx hb htb in_OP hown hK hP qz1 hz1 rfl 0 (by decide) (htb _ m_731) (fun _ h9 => h9) rfl d_PA_after_1 ?_
    refine W.eq (congrArg (fun z => F0 m 4 ls (.int z :: [])) (by rw [hk] : (nI op.1) = nI 1)) ?_
    refine lv_tableOut (tgt := 99) hx hb d_PA_after_4 (by decide) rfl ?_
    refine lv_aload_n hx hb d_PA_after_99 rfl (lv_at hl 0 rfl) ?_
    refine va_get (D := (dC, dI)) (ci := 6) (v := .ref y) (C := R_PA) (T := T_PA) (N := 4) hx hb htb in_PA hown hK hP 0 rfl rfl 2 (by decide) (htb _ m_757) (fun _ h9 => h9) rfl d_PA_after_100 ?_
    refine lv_aload_n hx hb d_PA_after_103 rfl (lv_at hl 1 rfl) ?_
    obtain ⟨qz2, hz2⟩ := List.getElem?_of_mem (List.mem_append_right [(x, .inr (6, [.int (nI lim), .int (nI rm), .ref y, .int 6]))] hoc)
    refine va_get (D := (dC, dI)) (ci := 4) (v := .ref pa) (C := R_OP) (T := T_OP) (N := 4) hx hb htb in_OP hown hK hP qz2 hz2 rfl 1 (by decide) (htb _ m_733) (fun _ h9 => h9) rfl d_PA_after_104 ?_
    refine lv_aload_n hx hb d_PA_after_107 rfl (lv_at hl 1 rfl) ?_
    obtain ⟨qz3, hz3⟩ := List.getElem?_of_mem (List.mem_append_right [(x, .inr (6, [.int (nI lim), .int (nI rm), .ref y, .int 6]))] hoc)
    refine va_get (D := (dC, dI)) (ci := 4) (v := .int (nI op.1)) (C := R_OP) (T := T_OP) (N := 4) hx hb htb in_OP hown hK hP qz3 hz3 rfl 0 (by decide) (htb _ m_731) (fun _ h9 => h9) rfl d_PA_after_108 ?_
    refine lv_aload_n hx hb d_PA_after_111 rfl (lv_at hl 1 rfl) ?_
    obtain ⟨qz4, hz4⟩ := List.getElem?_of_mem (List.mem_append_right [(x, .inr (6, [.int (nI lim), .int (nI rm), .ref y, .int 6]))] hoc)
    refine va_get (D := (dC, dI)) (ci := 4) (v := .ref va) (C := R_OP) (T := T_OP) (N := 4) hx hb htb in_OP hown hK hP qz4 hz4 rfl 3 (by decide) (htb _ m_737) (fun _ h9 => h9) rfl d_PA_after_112 ?_
    refine W.eq (g2 := F0 m 115 ls [.ref va, .int (nI 1), .ref pa, .ref y]) (by rw [hk]) ?_
    have hPc := zz_pickP (pre := [(x, .inr (6, [.int (nI lim), .int (nI rm), .ref y, .int 6]))]) (fz := fz) (wc := []) hP [] rfl
    have hDc := zz_pickD (pre := [(x, .inr (6, [.int (nI lim), .int (nI rm), .ref y, .int 6]))]) (fz := fz) (wc := []) hD [] (by decide) rfl
    have hFc := zz_free (pre := [(x, .inr (6, [.int (nI lim), .int (nI rm), .ref y, .int 6]))]) (fz := fz) (wc := []) hD hS hA [] rfl
    have hKc := hK.sub (tys' := [(cB, .byte), (cO, .object "java/lang/Object")]) [0, 1] rfl
    refine va_callq (va_runS (As := [.ref y, .ref pa, .int (nI 1), .ref va]) (rest := []) ⟨hx, hb, hml, hown, htb⟩ (all_PA_editedV op.2.1 l dC dI _ y d n0 w0 pa 1 va dv nv op.2.2.2 cB cO em aK aV fz hv hpp (by omega) (by omega) (Or.inl rfl) hvv) (va_cwS 4 htb (g_S (fun _ h => h) m_806 m_804 m_805 m_23) rfl rfl rfl (by decide +kernel) ⟨(by show ((20 + 2 * op.2.1.length) + 1) ≤ 410; omega), (by show (27 + (500 + 80 * op.2.1.length)) ≤ 14100; omega)⟩) ⟨fun a U g mk q => by obtain ⟨q0, q1, qP, qK, qD, z0⟩ := q; exact ⟨q0, q1, qP, va_K.moved (u := U) (U := U.calling g mk a) (Vm.Alike.refl U.vm) qK, qD, EX.same (U := U) (U' := U.calling g mk a) rfl z0⟩, fun U hU hW => ⟨rfl, by rw [hU], by rw [hU]; exact hPc, va_K.moved hW.alike hKc, hDc.weaken (fun _ _ _ _ => trivial), by rw [hU]; exact EX.warm hW ((hE.kept (fun a h1 h2 => hS.2.1 a h1 h2)).narrow hFc)⟩⟩ rfl rfl hl.1 rfl (lv_room (Nat.le_of_ble_eq_true rfl)) d_PA_after_115 ⟨(by show (0 + (7 * op.2.1.length)) ≤ (7 * (op.2.2.1.length + op.2.1.length)); omega), (by show (0 + (97 * op.2.1.length)) ≤ (97 * (op.2.2.1.length + op.2.1.length)); omega)⟩) hS (fun q _ h => hFc q h) hFc (fun r6 u5 t H1 locs ht hvm hw7 hB hz1 hk1 hS => ?_)
    obtain ⟨hP1, hK1, hD1⟩ := hB
    rw [ht] at hP1
    have hK1 := va_K.moved hvm.symm hK1
    have hw7 : (r6 = none ∧ edt 1 op.2.2.2 op.2.1 w0 = none) ∨ ∃ y8 n8 w8, r6 = some y8 ∧ edt 1 op.2.2.2 op.2.1 w0 = some w8 ∧ VT cB cO em aK (d + dv) (u5 ++ fz) y8 n8 w8 := hw7
    obtain ⟨hP, hD⟩ := zz_join (pre := [(x, .inr (6, [.int (nI lim), .int (nI rm), .ref y, .int 6]))]) (fz := fz) (wc := []) (wr := [(x, .inr (6, [.int (nI lim), .int (nI rm), .ref y, .int 6]))]) (w1 := ([] ++ (u5 ++ fz))) hP hD [] [0] rfl rfl (by decide) (by decide) hk1 hFc hP1 hD1
    have hK := (hK.sub (tys' := []) [] rfl).app hK1
    generalize H1 = H at hP hS ⊢
    have hP : va_P (dC, dI) vwCl ([(x, .inr (6, [.int (nI lim), .int (nI rm), .ref y, .int 6]))] ++ (u5 ++ fz)) H := hP
    have hD : va_D A ([(x, .inr (6, [.int (nI lim), .int (nI rm), .ref y, .int 6]))] ++ (u5 ++ fz)) := hD
    have hK : va_K (dC, dI) vwCl [(cB, .byte), (cO, .object "java/lang/Object")] s := hK
    obtain ⟨rfl, he5⟩ | ⟨y5, n5, w5, rfl, he5, hv5⟩ := hw7
    · refine W.eq (g2 := F0 m 118 ls [.null]) rfl ?_
      have hae : (aftR op w0) = (6, []) := by rw [hae, he5]; rfl
      have hP9 := zz_pickP (pre := [(x, .inr (6, [.int (nI lim), .int (nI rm), .ref y, .int 6]))]) (fz := (u5 ++ fz)) (wc := [(x, .inr (6, [.int (nI lim), .int (nI rm), .ref y, .int 6]))]) hP [0] rfl
      have hD9 := zz_pickD (pre := [(x, .inr (6, [.int (nI lim), .int (nI rm), .ref y, .int 6]))]) (fz := (u5 ++ fz)) (wc := [(x, .inr (6, [.int (nI lim), .int (nI rm), .ref y, .int 6]))]) hD [0] (by decide) rfl
      have hK9 := hK.sub (tys' := [(cB, .byte), (cO, .object "java/lang/Object")]) [0, 1] rfl
      rw [hQ]
      refine W.widen (k := (7 * (op.2.2.1.length + op.2.1.length))) (n := (97 * (op.2.2.1.length + op.2.1.length))) ((by show (0 + (7 * op.2.1.length)) ≤ (7 * (op.2.2.1.length + op.2.1.length)); omega)) ((by show (0 + (97 * op.2.1.length)) ≤ (97 * (op.2.2.1.length + op.2.1.length)); omega)) ?_
      exact W.aret (v := .null) hx hb hr (Or.inl ⟨_, rfl⟩) (Or.inl rfl) (fun t ht hW => ⟨⟨none, ((6 : Int32), u5), rfl, Or.inl ⟨rfl, by rw [hae]; decide, by rw [hae]; decide, by rw [hae]; rfl⟩, ⟨by rw [ht]; exact hP9, va_K.moved hW.alike hK9, hD9⟩⟩, hS.F ht⟩) hS.2.2 d_PA_after_118
    · refine W.eq (g2 := F0 m 118 ls [.ref y5]) rfl ?_
      have hP9 := zz_pickP (pre := [(x, .inr (6, [.int (nI lim), .int (nI rm), .ref y, .int 6]))]) (fz := (u5 ++ fz)) (wc := [(x, .inr (6, [.int (nI lim), .int (nI rm), .ref y, .int 6]))]) hP [0] rfl
      have hD9 := zz_pickD (pre := [(x, .inr (6, [.int (nI lim), .int (nI rm), .ref y, .int 6]))]) (fz := (u5 ++ fz)) (wc := [(x, .inr (6, [.int (nI lim), .int (nI rm), .ref y, .int 6]))]) hD [0] (by decide) rfl
      have hK9 := hK.sub (tys' := [(cB, .byte), (cO, .object "java/lang/Object")]) [0, 1] rfl
      rw [hQ]
      refine W.widen (k := (7 * (op.2.2.1.length + op.2.1.length))) (n := (97 * (op.2.2.1.length + op.2.1.length))) ((by show (0 + (7 * op.2.1.length)) ≤ (7 * (op.2.2.1.length + op.2.1.length)); omega)) ((by show (0 + (97 * op.2.1.length)) ≤ (97 * (op.2.2.1.length + op.2.1.length)); omega)) ?_
      exact W.aret (v := .ref y5) hx hb hr (Or.inl ⟨_, rfl⟩) (Or.inr ⟨_, rfl⟩) (fun t ht hW => ⟨⟨(some y5), ((6 : Int32), u5), rfl, Or.inr ⟨_, _, _, rfl, by rw [hae, he5]; rfl, rfl, hv5.up (by omega)⟩, ⟨by rw [ht]; exact hP9, va_K.moved hW.alike hK9, hD9⟩⟩, hS.F ht⟩) hS.2.2 d_PA_after_118
  · have hae := aft_e (w := w0) (Or.inr (Or.inr hk))
    rw [hk] at hae
    refine lv_aload_n hx hb d_PA_after_0 rfl (lv_at hl 1 rfl) ?_
    obtain ⟨qz1, hz1⟩ := List.getElem?_of_mem (List.mem_append_right [(x, .inr (6, [.int (nI lim), .int (nI rm), .ref y, .int 6]))] hoc)
    refine va_get (D := (dC, dI)) (ci := 4) (v := .int (nI op.1)) (C := R_OP) (T := T_OP) (N := 4) hx hb htb in_OP hown hK hP qz1 hz1 rfl 0 (by decide) (htb _ m_731) (fun _ h9 => h9) rfl d_PA_after_1 ?_
    refine W.eq (congrArg (fun z => F0 m 4 ls (.int z :: [])) (by rw [hk] : (nI op.1) = nI 3)) ?_
    refine lv_tableOut (tgt := 99) hx hb d_PA_after_4 (by decide) rfl ?_
    refine lv_aload_n hx hb d_PA_after_99 rfl (lv_at hl 0 rfl) ?_
    refine va_get (D := (dC, dI)) (ci := 6) (v := .ref y) (C := R_PA) (T := T_PA) (N := 4) hx hb htb in_PA hown hK hP 0 rfl rfl 2 (by decide) (htb _ m_757) (fun _ h9 => h9) rfl d_PA_after_100 ?_
    refine lv_aload_n hx hb d_PA_after_103 rfl (lv_at hl 1 rfl) ?_
    obtain ⟨qz2, hz2⟩ := List.getElem?_of_mem (List.mem_append_right [(x, .inr (6, [.int (nI lim), .int (nI rm), .ref y, .int 6]))] hoc)
    refine va_get (D := (dC, dI)) (ci := 4) (v := .ref pa) (C := R_OP) (T := T_OP) (N := 4) hx hb htb in_OP hown hK hP qz2 hz2 rfl 1 (by decide) (htb _ m_733) (fun _ h9 => h9) rfl d_PA_after_104 ?_
    refine lv_aload_n hx hb d_PA_after_107 rfl (lv_at hl 1 rfl) ?_
    obtain ⟨qz3, hz3⟩ := List.getElem?_of_mem (List.mem_append_right [(x, .inr (6, [.int (nI lim), .int (nI rm), .ref y, .int 6]))] hoc)
    refine va_get (D := (dC, dI)) (ci := 4) (v := .int (nI op.1)) (C := R_OP) (T := T_OP) (N := 4) hx hb htb in_OP hown hK hP qz3 hz3 rfl 0 (by decide) (htb _ m_731) (fun _ h9 => h9) rfl d_PA_after_108 ?_
    refine lv_aload_n hx hb d_PA_after_111 rfl (lv_at hl 1 rfl) ?_
    obtain ⟨qz4, hz4⟩ := List.getElem?_of_mem (List.mem_append_right [(x, .inr (6, [.int (nI lim), .int (nI rm), .ref y, .int 6]))] hoc)
    refine va_get (D := (dC, dI)) (ci := 4) (v := .ref va) (C := R_OP) (T := T_OP) (N := 4) hx hb htb in_OP hown hK hP qz4 hz4 rfl 3 (by decide) (htb _ m_737) (fun _ h9 => h9) rfl d_PA_after_112 ?_
    refine W.eq (g2 := F0 m 115 ls [.ref va, .int (nI 3), .ref pa, .ref y]) (by rw [hk]) ?_
    have hPc := zz_pickP (pre := [(x, .inr (6, [.int (nI lim), .int (nI rm), .ref y, .int 6]))]) (fz := fz) (wc := []) hP [] rfl
    have hDc := zz_pickD (pre := [(x, .inr (6, [.int (nI lim), .int (nI rm), .ref y, .int 6]))]) (fz := fz) (wc := []) hD [] (by decide) rfl
    have hFc := zz_free (pre := [(x, .inr (6, [.int (nI lim), .int (nI rm), .ref y, .int 6]))]) (fz := fz) (wc := []) hD hS hA [] rfl
    have hKc := hK.sub (tys' := [(cB, .byte), (cO, .object "java/lang/Object")]) [0, 1] rfl
    refine va_callq (va_runS (As := [.ref y, .ref pa, .int (nI 3), .ref va]) (rest := []) ⟨hx, hb, hml, hown, htb⟩ (all_PA_editedV op.2.1 l dC dI _ y d n0 w0 pa 3 va dv nv op.2.2.2 cB cO em aK aV fz hv hpp (by omega) (by omega) (Or.inr rfl) hvv) (va_cwS 4 htb (g_S (fun _ h => h) m_806 m_804 m_805 m_23) rfl rfl rfl (by decide +kernel) ⟨(by show ((20 + 2 * op.2.1.length) + 1) ≤ 410; omega), (by show (27 + (500 + 80 * op.2.1.length)) ≤ 14100; omega)⟩) ⟨fun a U g mk q => by obtain ⟨q0, q1, qP, qK, qD, z0⟩ := q; exact ⟨q0, q1, qP, va_K.moved (u := U) (U := U.calling g mk a) (Vm.Alike.refl U.vm) qK, qD, EX.same (U := U) (U' := U.calling g mk a) rfl z0⟩, fun U hU hW => ⟨rfl, by rw [hU], by rw [hU]; exact hPc, va_K.moved hW.alike hKc, hDc.weaken (fun _ _ _ _ => trivial), by rw [hU]; exact EX.warm hW ((hE.kept (fun a h1 h2 => hS.2.1 a h1 h2)).narrow hFc)⟩⟩ rfl rfl hl.1 rfl (lv_room (Nat.le_of_ble_eq_true rfl)) d_PA_after_115 ⟨(by show (0 + (7 * op.2.1.length)) ≤ (7 * (op.2.2.1.length + op.2.1.length)); omega), (by show (0 + (97 * op.2.1.length)) ≤ (97 * (op.2.2.1.length + op.2.1.length)); omega)⟩) hS (fun q _ h => hFc q h) hFc (fun r6 u5 t H1 locs ht hvm hw7 hB hz1 hk1 hS => ?_)
    obtain ⟨hP1, hK1, hD1⟩ := hB
    rw [ht] at hP1
    have hK1 := va_K.moved hvm.symm hK1
    have hw7 : (r6 = none ∧ edt 3 op.2.2.2 op.2.1 w0 = none) ∨ ∃ y8 n8 w8, r6 = some y8 ∧ edt 3 op.2.2.2 op.2.1 w0 = some w8 ∧ VT cB cO em aK (d + dv) (u5 ++ fz) y8 n8 w8 := hw7
    obtain ⟨hP, hD⟩ := zz_join (pre := [(x, .inr (6, [.int (nI lim), .int (nI rm), .ref y, .int 6]))]) (fz := fz) (wc := []) (wr := [(x, .inr (6, [.int (nI lim), .int (nI rm), .ref y, .int 6]))]) (w1 := ([] ++ (u5 ++ fz))) hP hD [] [0] rfl rfl (by decide) (by decide) hk1 hFc hP1 hD1
    have hK := (hK.sub (tys' := []) [] rfl).app hK1
    generalize H1 = H at hP hS ⊢
    have hP : va_P (dC, dI) vwCl ([(x, .inr (6, [.int (nI lim), .int (nI rm), .ref y, .int 6]))] ++ (u5 ++ fz)) H := hP
    have hD : va_D A ([(x, .inr (6, [.int (nI lim), .int (nI rm), .ref y, .int 6]))] ++ (u5 ++ fz)) := hD
    have hK : va_K (dC, dI) vwCl [(cB, .byte), (cO, .object "java/lang/Object")] s := hK
    obtain ⟨rfl, he5⟩ | ⟨y5, n5, w5, rfl, he5, hv5⟩ := hw7
    · refine W.eq (g2 := F0 m 118 ls [.null]) rfl ?_
      have hae : (aftR op w0) = (6, []) := by rw [hae, he5]; rfl
      have hP9 := zz_pickP (pre := [(x, .inr (6, [.int (nI lim), .int (nI rm), .ref y, .int 6]))]) (fz := (u5 ++ fz)) (wc := [(x, .inr (6, [.int (nI lim), .int (nI rm), .ref y, .int 6]))]) hP [0] rfl
      have hD9 := zz_pickD (pre := [(x, .inr (6, [.int (nI lim), .int (nI rm), .ref y, .int 6]))]) (fz := (u5 ++ fz)) (wc := [(x, .inr (6, [.int (nI lim), .int (nI rm), .ref y, .int 6]))]) hD [0] (by decide) rfl
      have hK9 := hK.sub (tys' := [(cB, .byte), (cO, .object "java/lang/Object")]) [0, 1] rfl
      rw [hQ]
      refine W.widen (k := (7 * (op.2.2.1.length + op.2.1.length))) (n := (97 * (op.2.2.1.length + op.2.1.length))) ((by show (0 + (7 * op.2.1.length)) ≤ (7 * (op.2.2.1.length + op.2.1.length)); omega)) ((by show (0 + (97 * op.2.1.length)) ≤ (97 * (op.2.2.1.length + op.2.1.length)); omega)) ?_
      exact W.aret (v := .null) hx hb hr (Or.inl ⟨_, rfl⟩) (Or.inl rfl) (fun t ht hW => ⟨⟨none, ((6 : Int32), u5), rfl, Or.inl ⟨rfl, by rw [hae]; decide, by rw [hae]; decide, by rw [hae]; rfl⟩, ⟨by rw [ht]; exact hP9, va_K.moved hW.alike hK9, hD9⟩⟩, hS.F ht⟩) hS.2.2 d_PA_after_118
    · refine W.eq (g2 := F0 m 118 ls [.ref y5]) rfl ?_
      have hP9 := zz_pickP (pre := [(x, .inr (6, [.int (nI lim), .int (nI rm), .ref y, .int 6]))]) (fz := (u5 ++ fz)) (wc := [(x, .inr (6, [.int (nI lim), .int (nI rm), .ref y, .int 6]))]) hP [0] rfl
      have hD9 := zz_pickD (pre := [(x, .inr (6, [.int (nI lim), .int (nI rm), .ref y, .int 6]))]) (fz := (u5 ++ fz)) (wc := [(x, .inr (6, [.int (nI lim), .int (nI rm), .ref y, .int 6]))]) hD [0] (by decide) rfl
      have hK9 := hK.sub (tys' := [(cB, .byte), (cO, .object "java/lang/Object")]) [0, 1] rfl
      rw [hQ]
      refine W.widen (k := (7 * (op.2.2.1.length + op.2.1.length))) (n := (97 * (op.2.2.1.length + op.2.1.length))) ((by show (0 + (7 * op.2.1.length)) ≤ (7 * (op.2.2.1.length + op.2.1.length)); omega)) ((by show (0 + (97 * op.2.1.length)) ≤ (97 * (op.2.2.1.length + op.2.1.length)); omega)) ?_
      exact W.aret (v := .ref y5) hx hb hr (Or.inl ⟨_, rfl⟩) (Or.inr ⟨_, rfl⟩) (fun t ht hW => ⟨⟨(some y5), ((6 : Int32), u5), rfl, Or.inr ⟨_, _, _, rfl, by rw [hae, he5]; rfl, rfl, hv5.up (by omega)⟩, ⟨by rw [ht]; exact hP9, va_K.moved hW.alike hK9, hD9⟩⟩, hS.F ht⟩) hS.2.2 d_PA_after_118
  · have hae := aft_6 (w := w0) hk
    refine lv_aload_n hx hb d_PA_after_0 rfl (lv_at hl 1 rfl) ?_
    obtain ⟨qz1, hz1⟩ := List.getElem?_of_mem (List.mem_append_right [(x, .inr (6, [.int (nI lim), .int (nI rm), .ref y, .int 6]))] hoc)
    refine va_get (D := (dC, dI)) (ci := 4) (v := .int (nI op.1)) (C := R_OP) (T := T_OP) (N := 4) hx hb htb in_OP hown hK hP qz1 hz1 rfl 0 (by decide) (htb _ m_731) (fun _ h9 => h9) rfl d_PA_after_1 ?_
    refine W.eq (congrArg (fun z => F0 m 4 ls (.int z :: [])) (by rw [hk] : (nI op.1) = nI 6)) ?_
    refine lv_tableIn (tgt := 79) hx hb d_PA_after_4 (by decide) (by decide) rfl rfl ?_
    refine lv_aload_n hx hb d_PA_after_79 rfl (lv_at hl 0 rfl) ?_
    refine lv_aload_n hx hb d_PA_after_80 rfl (lv_at hl 1 rfl) ?_
    obtain ⟨qz2, hz2⟩ := List.getElem?_of_mem (List.mem_append_right [(x, .inr (6, [.int (nI lim), .int (nI rm), .ref y, .int 6]))] hoc)
    refine va_get (D := (dC, dI)) (ci := 4) (v := .ref pa) (C := R_OP) (T := T_OP) (N := 4) hx hb htb in_OP hown hK hP qz2 hz2 rfl 1 (by decide) (htb _ m_733) (fun _ h9 => h9) rfl d_PA_after_81 ?_
    refine lv_aload_n hx hb d_PA_after_84 rfl (lv_at hl 0 rfl) ?_
    refine va_get (D := (dC, dI)) (ci := 6) (v := .ref y) (C := R_PA) (T := T_PA) (N := 4) hx hb htb in_PA hown hK hP 0 rfl rfl 2 (by decide) (htb _ m_757) (fun _ h9 => h9) rfl d_PA_after_85 ?_
    have hPc := zz_pickP (pre := [(x, .inr (6, [.int (nI lim), .int (nI rm), .ref y, .int 6]))]) (fz := fz) (wc := []) hP [] rfl
    have hDc := zz_pickD (pre := [(x, .inr (6, [.int (nI lim), .int (nI rm), .ref y, .int 6]))]) (fz := fz) (wc := []) hD [] (by decide) rfl
    have hFc := zz_free (pre := [(x, .inr (6, [.int (nI lim), .int (nI rm), .ref y, .int 6]))]) (fz := fz) (wc := []) hD hS hA [] rfl
    have hKc := hK.sub (tys' := [(cB, .byte), (cO, .object "java/lang/Object")]) [0, 1] rfl
    refine va_callq (va_runV (As := [.ref y]) (rest := [.ref x]) ⟨hx, hb, hml, hown, htb⟩ (k_PT_target l dC dI _ y d n0 w0 pa op.2.1 cB cO em aK aV fz hv hpp) (cwV 1 htb (g_V (fun _ h => h) m_787 m_784 m_785 m_786 m_21) rfl rfl rfl (by decide +kernel) ⟨Nat.le_of_ble_eq_true rfl, Nat.le_of_ble_eq_true rfl⟩) ⟨fun a U g mk q => by obtain ⟨q0, q1, qP, qK, qD, z0⟩ := q; exact ⟨q0, q1, qP, va_K.moved (u := U) (U := U.calling g mk a) (Vm.Alike.refl U.vm) qK, qD, EX.same (U := U) (U' := U.calling g mk a) rfl z0⟩, zz_recv hK hP (ci := 5) rfl (List.mem_append_right _ hpp.cell.choose_spec), fun U hU hW => ⟨rfl, by rw [hU], by rw [hU]; exact hPc, va_K.moved hW.alike hKc, hDc.weaken (fun _ _ _ _ => trivial), by rw [hU]; exact EX.warm hW ((hE.kept (fun a h1 h2 => hS.2.1 a h1 h2)).narrow hFc)⟩⟩ rfl rfl hl.1 rfl (lv_room (Nat.le_of_ble_eq_true rfl)) d_PA_after_88 ⟨(by show 0 ≤ (7 * (op.2.2.1.length + op.2.1.length)); omega), (by show 0 ≤ (97 * (op.2.2.1.length + op.2.1.length)); omega)⟩) hS (fun q _ h => hFc q h) hFc (fun r4 u3 t H1 locs ht hvm hw5 hB hz1 hk1 hS => ?_)
    obtain ⟨hP1, hK1, hD1⟩ := hB
    rw [ht] at hP1
    have hK1 := va_K.moved hvm.symm hK1
    have hw5 : (r4 = none ∧ trg op.2.1 w0 = none) ∨ ∃ y8 n8 w8 d8, r4 = some y8 ∧ trg op.2.1 w0 = some w8 ∧ d8 ≤ d ∧ VT cB cO em aK d8 fz y8 n8 w8 := hw5
    obtain ⟨hP, hD⟩ := zz_join (pre := [(x, .inr (6, [.int (nI lim), .int (nI rm), .ref y, .int 6]))]) (fz := fz) (wc := []) (wr := [(x, .inr (6, [.int (nI lim), .int (nI rm), .ref y, .int 6]))]) (w1 := ([] ++ fz)) hP hD [] [0] rfl rfl (by decide) (by decide) hk1 hFc hP1 hD1
    have hK := (hK.sub (tys' := []) [] rfl).app hK1
    generalize H1 = H at hP hS ⊢
    have hP : va_P (dC, dI) vwCl ([(x, .inr (6, [.int (nI lim), .int (nI rm), .ref y, .int 6]))] ++ fz) H := hP
    have hD : va_D A ([(x, .inr (6, [.int (nI lim), .int (nI rm), .ref y, .int 6]))] ++ fz) := hD
    have hK : va_K (dC, dI) vwCl [(cB, .byte), (cO, .object "java/lang/Object")] s := hK
    obtain ⟨rfl, htg⟩ | ⟨ym, nm, wm, dm, rfl, htg, hdm, hvq⟩ := hw5
    · refine W.eq (g2 := F0 m 91 ls [.null, .ref x]) rfl ?_
      refine lv_aload_n hx hb d_PA_after_91 rfl (lv_at hl 1 rfl) ?_
      obtain ⟨qz7, hz7⟩ := List.getElem?_of_mem (List.mem_append_right [(x, .inr (6, [.int (nI lim), .int (nI rm), .ref y, .int 6]))] hoc)
      refine va_get (D := (dC, dI)) (ci := 4) (v := .ref va) (C := R_OP) (T := T_OP) (N := 4) hx hb htb in_OP hown hK hP qz7 hz7 rfl 3 (by decide) (htb _ m_737) (fun _ h9 => h9) rfl d_PA_after_92 ?_
      have hPc := hP.sub (ws' := [(x, .inr (6, [.int (nI lim), .int (nI rm), .ref y, .int 6]))]) [0] rfl
      have hDc := hD.sub (ws' := [(x, .inr (6, [.int (nI lim), .int (nI rm), .ref y, .int 6]))]) [0] (by decide) rfl
      have hFc := va_free (wc := [(x, .inr (6, [.int (nI lim), .int (nI rm), .ref y, .int 6]))]) hD hS hA [0] rfl
      have hKc := hK.sub (tys' := []) [] rfl
      refine va_callq (va_runV (As := [.null, .ref va]) (rest := []) ⟨hx, hb, hml, hown, htb⟩ (k_PA_afterTestN l dC dI _ x lim rm y va ) (cwV 2 htb (g_V (fun _ h => h) m_833 m_830 m_832 m_1636 m_23) rfl rfl rfl (by decide +kernel) ⟨Nat.le_of_ble_eq_true rfl, Nat.le_of_ble_eq_true rfl⟩) ⟨fun a U g mk q => by obtain ⟨q0, q1, qP, qK, qD⟩ := q; exact ⟨q0, q1, qP, va_K.moved (u := U) (U := U.calling g mk a) (Vm.Alike.refl U.vm) qK, qD⟩, va_recv hK hP (ci := 6) rfl (q0 := 0) rfl, fun U hU hW => ⟨rfl, by rw [hU], by rw [hU]; exact hPc, va_K.moved hW.alike hKc, hDc.weaken (fun _ _ _ _ => trivial)⟩⟩ rfl rfl hl.1 rfl (lv_room (Nat.le_of_ble_eq_true rfl)) d_PA_after_95 ⟨(by show 0 ≤ (7 * (op.2.2.1.length + op.2.1.length)); omega), (by show 0 ≤ (97 * (op.2.2.1.length + op.2.1.length)); omega)⟩) hS (fun q _ h => hFc q h) hFc (fun r9 u8 t H1 locs ht hvm hw10 hB hz1 hk1 hS => ?_)
      obtain ⟨hP1, hK1, hD1⟩ := hB
      rw [ht] at hP1
      have hK1 := va_K.moved hvm.symm hK1
      have hw10 : r9 = none := hw10
      obtain ⟨hP, hD⟩ := zz_joinN (pre := [(x, .inr (6, [.int (nI lim), .int (nI rm), .ref y, .int 6]))]) (fz := fz) (wc := [(x, .inr (6, [.int (nI lim), .int (nI rm), .ref y, .int 6]))]) (wr := []) (w1 := [(x, .inr (6, [.int (nI lim), .int (nI rm), .ref y, .int 6]))]) hP hD [0] [] rfl rfl (by decide) (by decide) hk1 hFc hP1 hD1
      have hK := (hK.sub (tys' := [(cB, .byte), (cO, .object "java/lang/Object")]) [0, 1] rfl).app hK1
      generalize H1 = H at hP hS ⊢
      have hP : va_P (dC, dI) vwCl ([(x, .inr (6, [.int (nI lim), .int (nI rm), .ref y, .int 6]))] ++ fz) H := hP
      have hD : va_D A ([(x, .inr (6, [.int (nI lim), .int (nI rm), .ref y, .int 6]))] ++ fz) := hD
      have hK : va_K (dC, dI) vwCl [(cB, .byte), (cO, .object "java/lang/Object")] s := hK
      obtain rfl := hw10
      refine W.eq (g2 := F0 m 98 ls [.null]) rfl ?_
      have hae : (aftR op w0) = (6, []) := by simp only [hae, htg]
      have hP9 := zz_pickP (pre := [(x, .inr (6, [.int (nI lim), .int (nI rm), .ref y, .int 6]))]) (fz := fz) (wc := [(x, .inr (6, [.int (nI lim), .int (nI rm), .ref y, .int 6]))]) hP [0] rfl
      have hD9 := zz_pickD (pre := [(x, .inr (6, [.int (nI lim), .int (nI rm), .ref y, .int 6]))]) (fz := fz) (wc := [(x, .inr (6, [.int (nI lim), .int (nI rm), .ref y, .int 6]))]) hD [0] (by decide) rfl
      have hK9 := hK.sub (tys' := [(cB, .byte), (cO, .object "java/lang/Object")]) [0, 1] rfl
      rw [hQ]
      refine W.widen (k := (7 * (op.2.2.1.length + op.2.1.length))) (n := (97 * (op.2.2.1.length + op.2.1.length))) ((by show 0 ≤ (7 * (op.2.2.1.length + op.2.1.length)); omega)) ((by show 0 ≤ (97 * (op.2.2.1.length + op.2.1.length)); omega)) ?_
      exact W.aret (v := .null) hx hb hr (Or.inl ⟨_, rfl⟩) (Or.inl rfl) (fun t ht hW => ⟨⟨none, ((6 : Int32), ([] : va_W)), rfl, Or.inl ⟨rfl, by rw [hae]; decide, by rw [hae]; decide, by rw [hae]; rfl⟩, ⟨by rw [ht]; exact hP9, va_K.moved hW.alike hK9, hD9⟩⟩, hS.F ht⟩) hS.2.2 d_PA_after_98
    · refine W.eq (g2 := F0 m 91 ls [.ref ym, .ref x]) rfl ?_
      have hae : (aftR op w0) = if smR 30 wm op.2.2.2 = true then (0, w0) else (7, []) := by simp only [hae, htg]
      refine lv_aload_n hx hb d_PA_after_91 rfl (lv_at hl 1 rfl) ?_
      obtain ⟨qz7, hz7⟩ := List.getElem?_of_mem (List.mem_append_right [(x, .inr (6, [.int (nI lim), .int (nI rm), .ref y, .int 6]))] hoc)
      refine va_get (D := (dC, dI)) (ci := 4) (v := .ref va) (C := R_OP) (T := T_OP) (N := 4) hx hb htb in_OP hown hK hP qz7 hz7 rfl 3 (by decide) (htb _ m_737) (fun _ h9 => h9) rfl d_PA_after_92 ?_
      have hPc := zz_pickP (pre := [(x, .inr (6, [.int (nI lim), .int (nI rm), .ref y, .int 6]))]) (fz := fz) (wc := [(x, .inr (6, [.int (nI lim), .int (nI rm), .ref y, .int 6]))]) hP [0] rfl
      have hDc := zz_pickD (pre := [(x, .inr (6, [.int (nI lim), .int (nI rm), .ref y, .int 6]))]) (fz := fz) (wc := [(x, .inr (6, [.int (nI lim), .int (nI rm), .ref y, .int 6]))]) hD [0] (by decide) rfl
      have hFc := zz_free (pre := [(x, .inr (6, [.int (nI lim), .int (nI rm), .ref y, .int 6]))]) (fz := fz) (wc := [(x, .inr (6, [.int (nI lim), .int (nI rm), .ref y, .int 6]))]) hD hS hA [0] rfl
      have hKc := hK.sub (tys' := [(cB, .byte), (cO, .object "java/lang/Object")]) [0, 1] rfl
      refine va_callq (va_runV (As := [.ref ym, .ref va]) (rest := []) ⟨hx, hb, hml, hown, htb⟩ (k_PA_afterTest l dC dI _ x lim rm y ym nm wm va nv op.2.2.2 cB cO em aK aV fz (hvq.up (by omega)) (hvv.up (by omega))) (cwV 2 htb (g_V (fun _ h => h) m_833 m_830 m_832 m_1636 m_23) rfl rfl rfl (by decide +kernel) ⟨Nat.le_of_ble_eq_true rfl, Nat.le_of_ble_eq_true rfl⟩) ⟨fun a U g mk q => by obtain ⟨q0, q1, qP, qK, qD, z0⟩ := q; exact ⟨q0, q1, qP, va_K.moved (u := U) (U := U.calling g mk a) (Vm.Alike.refl U.vm) qK, qD, EX.same (U := U) (U' := U.calling g mk a) rfl z0⟩, va_recv hK hP (ci := 6) rfl (q0 := 0) rfl, fun U hU hW => ⟨rfl, by rw [hU], by rw [hU]; exact hPc, va_K.moved hW.alike hKc, hDc.weaken (fun _ _ _ _ => trivial), by rw [hU]; exact EX.warm hW ((hE.kept (fun a h1 h2 => hS.2.1 a h1 h2)).narrow hFc)⟩⟩ rfl rfl hl.1 rfl (lv_room (Nat.le_of_ble_eq_true rfl)) d_PA_after_95 ⟨(by show 0 ≤ (7 * (op.2.2.1.length + op.2.1.length)); omega), (by show 0 ≤ (97 * (op.2.2.1.length + op.2.1.length)); omega)⟩) hS (fun q _ h => hFc q h) hFc (fun r9 u8 t H1 locs ht hvm hw10 hB hz1 hk1 hS => ?_)
      obtain ⟨hP1, hK1, hD1⟩ := hB
      rw [ht] at hP1
      have hK1 := va_K.moved hvm.symm hK1
      have hw10 : (r9 = some y ∧ smR 30 wm op.2.2.2 = true ∧ u8 = 6) ∨ (r9 = none ∧ ¬ smR 30 wm op.2.2.2 = true ∧ u8 = 7) := hw10
      obtain ⟨hP, hD⟩ := zz_join (pre := [(x, .inr (6, [.int (nI lim), .int (nI rm), .ref y, .int 6]))]) (fz := fz) (wc := [(x, .inr (6, [.int (nI lim), .int (nI rm), .ref y, .int 6]))]) (wr := []) (w1 := ([(x, .inr (6, [.int (nI lim), .int (nI rm), .ref y, .int u8]))] ++ fz)) hP hD [0] [] rfl rfl (by decide) (by decide) hk1 hFc hP1 hD1
      have hK := (hK.sub (tys' := []) [] rfl).app hK1
      generalize H1 = H at hP hS ⊢
      have hP : va_P (dC, dI) vwCl ([(x, .inr (6, [.int (nI lim), .int (nI rm), .ref y, .int u8]))] ++ fz) H := hP
      have hD : va_D A ([(x, .inr (6, [.int (nI lim), .int (nI rm), .ref y, .int u8]))] ++ fz) := hD
      have hK : va_K (dC, dI) vwCl [(cB, .byte), (cO, .object "java/lang/Object")] s := hK
      obtain ⟨rfl, hs, hfl⟩ | ⟨rfl, hs, hfl⟩ := hw10
      · refine W.eq (g2 := F0 m 98 ls [.ref y]) rfl ?_
        have hP9 := zz_pickP (pre := [(x, .inr (6, [.int (nI lim), .int (nI rm), .ref y, .int u8]))]) (fz := fz) (wc := [(x, .inr (6, [.int (nI lim), .int (nI rm), .ref y, .int u8]))]) hP [0] rfl
        have hD9 := zz_pickD (pre := [(x, .inr (6, [.int (nI lim), .int (nI rm), .ref y, .int u8]))]) (fz := fz) (wc := [(x, .inr (6, [.int (nI lim), .int (nI rm), .ref y, .int u8]))]) hD [0] (by decide) rfl
        have hK9 := hK.sub (tys' := [(cB, .byte), (cO, .object "java/lang/Object")]) [0, 1] rfl
        rw [hQ]
        refine W.widen (k := (7 * (op.2.2.1.length + op.2.1.length))) (n := (97 * (op.2.2.1.length + op.2.1.length))) ((by show 0 ≤ (7 * (op.2.2.1.length + op.2.1.length)); omega)) ((by show 0 ≤ (97 * (op.2.2.1.length + op.2.1.length)); omega)) ?_
        exact W.aret (v := .ref y) hx hb hr (Or.inl ⟨_, rfl⟩) (Or.inr ⟨_, rfl⟩) (fun t ht hW => ⟨⟨(some y), ((u8 : Int32), ([] : va_W)), rfl, Or.inr ⟨_, _, _, rfl, by rw [hae, if_pos hs], hfl, hv.up (by omega)⟩, ⟨by rw [ht]; exact hP9, va_K.moved hW.alike hK9, hD9⟩⟩, hS.F ht⟩) hS.2.2 d_PA_after_98
      · refine W.eq (g2 := F0 m 98 ls [.null]) rfl ?_
        have hae : (aftR op w0) = (7, []) := by rw [hae, if_neg hs]
        have hP9 := zz_pickP (pre := [(x, .inr (6, [.int (nI lim), .int (nI rm), .ref y, .int u8]))]) (fz := fz) (wc := [(x, .inr (6, [.int (nI lim), .int (nI rm), .ref y, .int u8]))]) hP [0] rfl
        have hD9 := zz_pickD (pre := [(x, .inr (6, [.int (nI lim), .int (nI rm), .ref y, .int u8]))]) (fz := fz) (wc := [(x, .inr (6, [.int (nI lim), .int (nI rm), .ref y, .int u8]))]) hD [0] (by decide) rfl
        have hK9 := hK.sub (tys' := [(cB, .byte), (cO, .object "java/lang/Object")]) [0, 1] rfl
        rw [hQ]
        refine W.widen (k := (7 * (op.2.2.1.length + op.2.1.length))) (n := (97 * (op.2.2.1.length + op.2.1.length))) ((by show 0 ≤ (7 * (op.2.2.1.length + op.2.1.length)); omega)) ((by show 0 ≤ (97 * (op.2.2.1.length + op.2.1.length)); omega)) ?_
        exact W.aret (v := .null) hx hb hr (Or.inl ⟨_, rfl⟩) (Or.inl rfl) (fun t ht hW => ⟨⟨none, ((u8 : Int32), ([] : va_W)), rfl, Or.inl ⟨rfl, by rw [hae]; decide, by rw [hae]; decide, by rw [hae]; exact hfl⟩, ⟨by rw [ht]; exact hP9, va_K.moved hW.alike hK9, hD9⟩⟩, hS.F ht⟩) hS.2.2 d_PA_after_98
