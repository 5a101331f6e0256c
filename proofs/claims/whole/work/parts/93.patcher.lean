theorem plc_6 {rows : List Row} {s : List Nat} (h : hdK rows = 6) : plc rows s = some ((mpl rows s).getD (ksR rows).length) := by
  unfold plc mpl; rw [if_pos h, if_pos h]
theorem plc_dash {rows : List Row} (h : hdK rows = 5) : plc rows [45] = some (ksR rows).length := by
  unfold plc; rw [if_neg (by omega), if_pos h, if_pos rfl]
theorem plc_none {rows : List Row} {s : List Nat} (h5 : ¬ hdK rows = 5) (h6 : ¬ hdK rows = 6) : plc rows s = none := by
  unfold plc; rw [if_neg h6, if_neg h5]
theorem plc_num {rows : List Row} {s : List Nat} (hc : ∀ c ∈ s, c < 128) (hl : (ksR rows).length ≤ 160) (h5 : hdK rows = 5) (hs : ¬ s = [45]) : (if oI (wnum s) ≤ nI (ksR rows).length then oI (wnum s) else -1) = oI (plc rows s) := by
  have e : plc rows s = (wnum s).bind (fun v => if v ≤ (ksR rows).length then some v else none) := by
    unfold plc
    rw [if_neg (by omega), if_pos h5, if_neg hs]
  rw [e]
  cases hw : wnum s with
  | none =>
    rw [if_pos (show oI none ≤ nI (ksR rows).length from Int32.le_trans (by decide) (nI_nn _ (by omega)))]
    rfl
  | some v =>
    have hv := wnum_lt hc hw
    show (if nI v ≤ nI (ksR rows).length then nI v else -1) = oI (if v ≤ (ksR rows).length then some v else none)
    by_cases h : v ≤ (ksR rows).length
    · rw [if_pos h, if_pos ((nI_leI (by omega) (by omega)).mpr h)]; rfl
    · rw [if_neg h, if_neg (fun h9 => h ((nI_leI (by omega) (by omega)).mp h9))]; rfl
theorem ks_len {d : Nat} {rows : List Row} {t : Nat} (h : WR (d + 1) rows) (ht : t < (ksR rows).length) : ((ksR rows).getD t []).length < rows.length := by
  obtain ⟨q, A, B, e, h2, _⟩ := wr_around h ht
  have h9 := congrArg List.length e
  simp only [List.length_cons, List.length_append, setNm_len, lift_len] at h9
  omega
theorem ks_le {d : Nat} {rows : List Row} (h : WR (d + 1) rows) : (ksR rows).length < rows.length := by
  obtain ⟨k, num, rt, e, _, _, _, hw⟩ := wr_parts h
  have h9 := congrArg List.length e
  rw [List.length_cons, len_kids k _ _ (ksN_len rows)] at h9
  have := kid_len hw
  omega
theorem spc_nm {rows : List Row} {t o : Nat} {n n' : List Nat} {v : List Row} (h : hdK rows = 6 → n = n') : spc rows t o [(n, v)] = spc rows t o [(n', v)] := by
  cases rows with
  | nil => rfl
  | cons q r =>
    by_cases h6 : q.1 = 6
    · rw [h h6]
    · show q :: kidRows q.1 _ _ = q :: kidRows q.1 _ _
      congr 1
      exact kid_names5 h6 _ _ _ (by simp [ksN_len]) (by simp [ksN_len])
def C_PA_editedV (ss : List (List Nat)) : Prop := ∀ (l : Launch) (dC : Nat → ClassId) (dI : Nat → Nat → Nat) (sz : Nat) (a : Nat) (d : Nat) (nn : List Nat) (rows : List Row) (p1 : Nat) (kdN : Nat) (yv : Nat) (dv : Nat) (nv : List Nat) (vr : List Row) (cB : ClassId) (cO : ClassId) (em : Nat) (aK : Nat → Nat) (aV : Nat → Nat) (fz : va_W) (hv : VT cB cO em aK d fz a nn rows) (hpt : PTz cB aK fz ss p1) (hsz : rows.length ≤ 33) (hdd : (d + dv) < 90) (hkd : kdN = 1 ∨ kdN = 3) (hvv : VT cB cO em aK dv fz yv nv vr), Met l y_PA_edited ws_PA_edited ({ frames := (20 + 2 * ss.length), cells := (7 * ss.length), slots := (97 * ss.length), locals := (500 + 80 * ss.length) }) (va_Pc [.ref a, .ref p1, .int (nI kdN), .ref yv] (fun U => U.heap.size = sz ∧ va_P (dC, dI) vwCl ([] ++ fz) U.heap ∧ va_K (dC, dI) vwCl [(cB, .byte), (cO, .object "java/lang/Object")] U ∧ va_D (fun _ => True) ([] ++ fz) ∧ EX em aK aV (va_A ([] ++ fz) sz) U U.heap)) (va_Qq (fun (r : Option Nat) (u : va_W) => (r = none ∧ edt kdN vr ss rows = none) ∨ ∃ y8 n8 w8, r = some y8 ∧ edt kdN vr ss rows = some w8 ∧ VT cB cO em aK (d + dv) (u ++ fz) y8 n8 w8) (fun u t => va_P (dC, dI) vwCl ([] ++ (u ++ fz)) t.heap ∧ va_K (dC, dI) vwCl [(cB, .byte), (cO, .object "java/lang/Object")] t ∧ va_D (va_A ([] ++ fz) sz) ([] ++ (u ++ fz))) (va_A ([] ++ fz) sz)) (7 * ss.length) (97 * ss.length) (va_A ([] ++ fz) sz)
def C_PA_editedN (ss : List (List Nat)) : Prop := ∀ (l : Launch) (dC : Nat → ClassId) (dI : Nat → Nat → Nat) (sz : Nat) (a : Nat) (d : Nat) (nn : List Nat) (rows : List Row) (p1 : Nat) (cB : ClassId) (cO : ClassId) (em : Nat) (aK : Nat → Nat) (aV : Nat → Nat) (fz : va_W) (hv : VT cB cO em aK d fz a nn rows) (hpt : PTz cB aK fz ss p1) (hsz : rows.length ≤ 33) (hdd : d < 90), Met l y_PA_edited ws_PA_edited ({ frames := (20 + 2 * ss.length), cells := (7 * ss.length), slots := (97 * ss.length), locals := (500 + 80 * ss.length) }) (va_Pc [.ref a, .ref p1, .int 2, .null] (fun U => U.heap.size = sz ∧ va_P (dC, dI) vwCl ([] ++ fz) U.heap ∧ va_K (dC, dI) vwCl [(cB, .byte), (cO, .object "java/lang/Object")] U ∧ va_D (fun _ => True) ([] ++ fz) ∧ EX em aK aV (va_A ([] ++ fz) sz) U U.heap)) (va_Qq (fun (r : Option Nat) (u : va_W) => (r = none ∧ edt 2 [] ss rows = none) ∨ ∃ y8 n8 w8, r = some y8 ∧ edt 2 [] ss rows = some w8 ∧ VT cB cO em aK d (u ++ fz) y8 n8 w8) (fun u t => va_P (dC, dI) vwCl ([] ++ (u ++ fz)) t.heap ∧ va_K (dC, dI) vwCl [(cB, .byte), (cO, .object "java/lang/Object")] t ∧ va_D (va_A ([] ++ fz) sz) ([] ++ (u ++ fz))) (va_A ([] ++ fz) sz)) (7 * ss.length) (97 * ss.length) (va_A ([] ++ fz) sz)
set_option maxHeartbeats 1000000 in
set_option maxRecDepth 100000 in
/-- placeToAdd(at, last) -/
theorem k_PA_placeToAdd (l : Launch) (dC : Nat → ClassId) (dI : Nat → Nat → Nat) (sz : Nat) (a : Nat) (d : Nat) (nn : List Nat) (rows : List Row) (p1 : Nat) (s1 : List Nat) (ss : List (List Nat)) (cB : ClassId) (cO : ClassId) (em : Nat) (aK : Nat → Nat) (aV : Nat → Nat) (fz : va_W) (hv : VT cB cO em aK (d + 1) fz a nn rows) (hpt : PTz cB aK fz (s1 :: ss) p1) : Met l y_PA_placeToAdd ws_PA_placeToAdd ({ frames := 4, cells := 0, slots := 0, locals := 86 }) (va_Pc [.ref a, .ref p1] (fun U => U.heap.size = sz ∧ va_P (dC, dI) vwCl ([] ++ fz) U.heap ∧ va_K (dC, dI) vwCl [(cB, .byte), (cO, .object "java/lang/Object")] U ∧ va_D (fun _ => True) ([] ++ fz) ∧ EX em aK aV (va_A ([] ++ fz) sz) U U.heap)) (va_Qi (fun (r : Int32) (u : Unit) => r = oI (plc rows s1)) (fun u t => va_P (dC, dI) vwCl ([] ++ fz) t.heap ∧ va_K (dC, dI) vwCl [(cB, .byte), (cO, .object "java/lang/Object")] t ∧ va_D (va_A ([] ++ fz) sz) ([] ++ fz)) (va_A ([] ++ fz) sz)) 0 0 (va_A ([] ++ fz) sz) := by
  refine Met.ofW (cc := c_PA_placeToAdd) (maxL := 3) (ret := (some .int)) (by decide) rfl ?_
  intro p e s m args below meth c s₁ B hml hv
  obtain ⟨rfl, hsz, hP, hK, hD0, hE⟩ := hv
  have hx := B.exec
  have hb := B.bytes
  have hr := B.returns
  have hts := atoms_spec (ws := ws_PA_placeToAdd) B.pre
  have htb := fun w (h : w ∈ TBL) => hts w (List.mem_cons_of_mem _ h)
  have hown : s.vm.findClass R_PA = some m.cls := findClass_of_methodNamed B.named
  have hlocks := B.notSynchronized
  subst hsz
  have hD := hD0.self (sz := s.heap.size)
  generalize hAe : va_A ([] ++ fz) s.heap.size = A at hD hE ⊢
  have hA : ∀ q : Nat, s.heap.size ≤ q → A q := fun q h => by rw [← hAe]; exact Or.inr h
  have hS : va_S A s.heap s.heap [] := va_S.rf
  have hP : va_P (dC, dI) vwCl ([] ++ fz) s.heap := hP
  have hl := lv_entry ([.ref a, .ref p1]) (n := 3) (Nat.le_of_ble_eq_true rfl)
  rw [lg_entry_eq]
  generalize (lg_sl ([.ref a, .ref p1]) ++ List.replicate (3 - (lg_sl ([.ref a, .ref p1])).length) Slot.unset).toArray = ls at hl ⊢
  have hl : lv_has ls 3 [(0, .ref a), (1, .ref p1)] := hl
  obtain ⟨st, b, hpc, hst, hcc, hrest⟩ := (id hpt : PTz cB aK fz (s1 :: ss) p1)
  obtain ⟨kd, tx, nu, nm, pa, dp, cn, tt, kk, num, rt, xs, ns, hc, htx, hnm, hal, hhd, hnl, hrl, hk5, hvl, hhk, hns, hdp, hcn, hrw, h160⟩ := (id hv : VT cB cO em aK (d + 1) fz a nn rows).opn
  refine lv_aload_n hx hb d_PA_placeToAdd_0 rfl (lv_at hl 0 rfl) ?_
  obtain ⟨qz1, hz1⟩ := List.getElem?_of_mem (List.mem_append_right [] hc)
  refine va_get (D := (dC, dI)) (ci := 3) (v := .int kd) (C := R_VA) (T := T_VA) (N := 7) hx hb htb in_VA hown hK hP qz1 hz1 rfl 0 (by decide) (htb _ m_382) (fun _ h9 => h9) rfl d_PA_placeToAdd_1 ?_
  refine lv_iconst (v := 4) hx hb d_PA_placeToAdd_4 (by decide) ?_
  refine lv_icmp_ne (tgt := 33) hx hb d_PA_placeToAdd_5 rfl (fun h1 => ?_) (fun h1 => ?_)
  · have h1 : ¬ kk = 6 := fun h => h1 ((hhd.kind.1).mpr h)
    refine lv_aload_n hx hb d_PA_placeToAdd_33 rfl (lv_at hl 1 rfl) ?_
    obtain ⟨qz2, hz2⟩ := List.getElem?_of_mem (List.mem_append_right [] hpc)
    refine va_get (D := (dC, dI)) (ci := 5) (v := .ref st) (C := R_PT) (T := T_PT) (N := 3) hx hb htb in_PT hown hK hP qz2 hz2 rfl 0 (by decide) (htb _ m_627) (fun _ h9 => h9) rfl d_PA_placeToAdd_34 ?_
    refine va_ldcS hx hb hown (lr_19 hE) d_PA_placeToAdd_37 ?_
    have hda : TX cB aK fz (aK 15) [45] := Or.inr ⟨15, by decide, rfl, by decide⟩
    obtain ⟨v_a, hSV_a⟩ := hst.sv htb hE (fun q h1 h2 => hS.2.1 q h1 h2) hK hP (fun q hq => List.mem_append_right _ hq) 0 rfl
    obtain ⟨v_b, hSV_b⟩ := hda.sv htb hE (fun q h1 h2 => hS.2.1 q h1 h2) hK hP (fun q hq => List.mem_append_right _ hq) 0 rfl
    have hPc : va_P (dC, dI) vwCl [] _ := hP.sub (ws' := []) [] rfl
    have hKc := hK.sub (tys' := []) [] rfl
    refine vp_callSi (W.runV (As := [.ref (aK 15)]) (rest := []) ⟨hx, hb, hml, hown, htb⟩ (q_ST_equals l dC dI st (aK 15) v_a v_b s1 ([45]) em aK aV A ) (cwV 1 htb (g_V (fun _ h => h) m_510 m_820 m_508 m_509 m_4) rfl rfl rfl (by decide +kernel) ⟨Nat.le_of_ble_eq_true rfl, Nat.le_of_ble_eq_true rfl⟩) ⟨fun a U g mk q => by obtain ⟨q0, qP, qK, z0, z1, z2⟩ := q; exact ⟨q0, qP, va_K.moved (u := U) (U := U.calling g mk a) (Vm.Alike.refl U.vm) qK, EX.same (U := U) (U' := U.calling g mk a) rfl z0, SV.moved (Vm.Alike.refl U.vm) z1, SV.moved (Vm.Alike.refl U.vm) z2⟩, hSV_a.recv, fun U hU hW => ⟨rfl, by rw [hU]; exact hPc, va_K.moved hW.alike hKc, by rw [hU]; exact EX.warm hW (hE.kept (fun a h1 h2 => hS.2.1 a h1 h2)), by rw [hU]; exact SV.moved hW.alike hSV_a, by rw [hU]; exact SV.moved hW.alike hSV_b⟩⟩ rfl rfl hl.1 rfl (lv_room (Nat.le_of_ble_eq_true rfl)) d_PA_placeToAdd_39 ⟨Nat.le_of_ble_eq_true rfl, Nat.le_of_ble_eq_true rfl⟩) (fun r3 hw4 => ?_)
    have hw4 : (r3 = 1 ∧ s1 = ([45])) ∨ (r3 = 0 ∧ s1 ≠ ([45])) := hw4
    refine lv_if_eq (tgt := 55) hx hb d_PA_placeToAdd_42 rfl (fun h3 => ?_) (fun h3 => ?_)
    · have hne : s1 ≠ [45] := by rcases hw4 with ⟨h, _⟩ | ⟨_, h⟩; exact absurd (h.symm.trans h3) (by decide); exact h
      refine lv_aload_n hx hb d_PA_placeToAdd_55 rfl (lv_at hl 1 rfl) ?_
      obtain ⟨qz5, hz5⟩ := List.getElem?_of_mem (List.mem_append_right [] hpc)
      refine va_get (D := (dC, dI)) (ci := 5) (v := .int (oI (wnum s1))) (C := R_PT) (T := T_PT) (N := 3) hx hb htb in_PT hown hK hP qz5 hz5 rfl 1 (by decide) (htb _ m_629) (fun _ h9 => h9) rfl d_PA_placeToAdd_56 ?_
      refine lv_istore_n hx hb d_PA_placeToAdd_59 rfl hl (by decide) rfl (fun ls hl => ?_)
      have hl : lv_has ls 3 [(2, .int (oI (wnum s1))), (0, .ref a), (1, .ref p1)] := hl
      refine lv_aload_n hx hb d_PA_placeToAdd_60 rfl (lv_at hl 1 rfl) ?_
      obtain ⟨qz6, hz6⟩ := List.getElem?_of_mem (List.mem_append_right [] hc)
      refine va_get (D := (dC, dI)) (ci := 3) (v := .int kd) (C := R_VA) (T := T_VA) (N := 7) hx hb htb in_VA hown hK hP qz6 hz6 rfl 0 (by decide) (htb _ m_382) (fun _ h9 => h9) rfl d_PA_placeToAdd_61 ?_
      refine lv_iconst (v := 3) hx hb d_PA_placeToAdd_64 (by decide) ?_
      refine lv_icmp_ne (tgt := 83) hx hb d_PA_placeToAdd_65 rfl (fun h4 => ?_) (fun h4 => ?_)
      · have h4 : ¬ kk = 5 := fun h => h4 ((hhd.kind.2.1).mpr h)
        refine lv_iconst (v := (-1)) hx hb d_PA_placeToAdd_83 (by decide) ?_
        have hP9 := zz_pickP (pre := []) (fz := fz) (wc := []) hP [] rfl
        have hD9 := zz_pickD (pre := []) (fz := fz) (wc := []) hD [] (by decide) rfl
        have hK9 := hK.sub (tys' := [(cB, .byte), (cO, .object "java/lang/Object")]) [0, 1] rfl
        refine W.widen (k := 0) (n := 0) (Nat.le_of_ble_eq_true rfl) (Nat.le_of_ble_eq_true rfl) ?_
        exact W.iret (v := (-1)) hx hb hr (fun t ht hW => ⟨⟨(-1), (), rfl, by rw [plc_none (fun h => h4 (hhk.symm.trans h)) (fun h => h1 (hhk.symm.trans h))]; rfl, ⟨by rw [ht]; exact hP9, va_K.moved hW.alike hK9, hD9⟩⟩, hS.F ht⟩) hS.2.2 d_PA_placeToAdd_84
      · have h4 : kk = 5 := (hhd.kind.2.1).mp h4
        refine lv_iload_n hx hb d_PA_placeToAdd_68 rfl (lv_at hl 0 rfl) ?_
        refine lv_aload_n hx hb d_PA_placeToAdd_69 rfl (lv_at hl 1 rfl) ?_
        obtain ⟨qz7, hz7⟩ := List.getElem?_of_mem (List.mem_append_right [] hc)
        refine va_get (D := (dC, dI)) (ci := 3) (v := .ref pa) (C := R_VA) (T := T_VA) (N := 7) hx hb htb in_VA hown hK hP qz7 hz7 rfl 4 (by decide) (htb _ m_397) (fun _ h9 => h9) rfl d_PA_placeToAdd_70 ?_
        have hPc : va_P (dC, dI) vwCl ([] ++ fz) _ := zz_tlP (pre := []) (tl := fz) hP
        have hKc := hK.sub (tys' := []) [] rfl
        refine vp_callSi (W.runV (As := []) (rest := [.int (oI (wnum s1))]) ⟨hx, hb, hml, hown, htb⟩ (z_AL_size l dC dI pa xs cO em fz hal) (cwV 0 htb (g_V (fun _ h => h) m_486 m_773 m_484 m_485 m_8) rfl rfl rfl (by decide +kernel) ⟨Nat.le_of_ble_eq_true rfl, Nat.le_of_ble_eq_true rfl⟩) ⟨fun a U g mk q => by obtain ⟨q0, qP, qK⟩ := q; exact ⟨q0, qP, va_K.moved (u := U) (U := U.calling g mk a) (Vm.Alike.refl U.vm) qK⟩, (hal).recv hK hP (fun q hq => List.mem_append_right _ hq), fun U hU hW => ⟨rfl, by rw [hU]; exact hPc, va_K.moved hW.alike hKc⟩⟩ rfl rfl hl.1 rfl (lv_room (Nat.le_of_ble_eq_true rfl)) d_PA_placeToAdd_73 ⟨Nat.le_of_ble_eq_true rfl, Nat.le_of_ble_eq_true rfl⟩) (fun r8 hw9 => ?_)
        have hw9 : r8 = nI xs.length := hw9
        obtain rfl := hw9
        have hpn := plc_num (s := s1) hcc (by omega) (hhk.trans h4) hne
        rw [hrl] at hpn
        refine lv_icmp_gt (tgt := 83) hx hb d_PA_placeToAdd_76 rfl (fun h5 => ?_) (fun h5 => ?_)
        · refine lv_iconst (v := (-1)) hx hb d_PA_placeToAdd_83 (by decide) ?_
          have hP9 := zz_pickP (pre := []) (fz := fz) (wc := []) hP [] rfl
          have hD9 := zz_pickD (pre := []) (fz := fz) (wc := []) hD [] (by decide) rfl
          have hK9 := hK.sub (tys' := [(cB, .byte), (cO, .object "java/lang/Object")]) [0, 1] rfl
          refine W.widen (k := 0) (n := 0) (Nat.le_of_ble_eq_true rfl) (Nat.le_of_ble_eq_true rfl) ?_
          exact W.iret (v := (-1)) hx hb hr (fun t ht hW => ⟨⟨(-1), (), rfl, by rw [← hpn, if_neg (Int32.not_le.mpr h5)], ⟨by rw [ht]; exact hP9, va_K.moved hW.alike hK9, hD9⟩⟩, hS.F ht⟩) hS.2.2 d_PA_placeToAdd_84
        · refine lv_iload_n hx hb d_PA_placeToAdd_79 rfl (lv_at hl 0 rfl) ?_
          refine lv_goto (tgt := 84) hx hb d_PA_placeToAdd_80 rfl ?_
          have hP9 := zz_pickP (pre := []) (fz := fz) (wc := []) hP [] rfl
          have hD9 := zz_pickD (pre := []) (fz := fz) (wc := []) hD [] (by decide) rfl
          have hK9 := hK.sub (tys' := [(cB, .byte), (cO, .object "java/lang/Object")]) [0, 1] rfl
          refine W.widen (k := 0) (n := 0) (Nat.le_of_ble_eq_true rfl) (Nat.le_of_ble_eq_true rfl) ?_
          exact W.iret (v := (oI (wnum s1))) hx hb hr (fun t ht hW => ⟨⟨(oI (wnum s1)), (), rfl, by rw [← hpn, if_pos (Int32.not_lt.mp h5)], ⟨by rw [ht]; exact hP9, va_K.moved hW.alike hK9, hD9⟩⟩, hS.F ht⟩) hS.2.2 d_PA_placeToAdd_84
    · have heq : s1 = [45] := by rcases hw4 with ⟨_, h⟩ | ⟨h, _⟩; exact h; exact absurd h h3
      refine lv_aload_n hx hb d_PA_placeToAdd_45 rfl (lv_at hl 0 rfl) ?_
      obtain ⟨qz5, hz5⟩ := List.getElem?_of_mem (List.mem_append_right [] hc)
      refine va_get (D := (dC, dI)) (ci := 3) (v := .ref pa) (C := R_VA) (T := T_VA) (N := 7) hx hb htb in_VA hown hK hP qz5 hz5 rfl 4 (by decide) (htb _ m_397) (fun _ h9 => h9) rfl d_PA_placeToAdd_46 ?_
      have hPc : va_P (dC, dI) vwCl ([] ++ fz) _ := zz_tlP (pre := []) (tl := fz) hP
      have hKc := hK.sub (tys' := []) [] rfl
      refine vp_callSi (W.runV (As := []) (rest := []) ⟨hx, hb, hml, hown, htb⟩ (z_AL_size l dC dI pa xs cO em fz hal) (cwV 0 htb (g_V (fun _ h => h) m_486 m_773 m_484 m_485 m_8) rfl rfl rfl (by decide +kernel) ⟨Nat.le_of_ble_eq_true rfl, Nat.le_of_ble_eq_true rfl⟩) ⟨fun a U g mk q => by obtain ⟨q0, qP, qK⟩ := q; exact ⟨q0, qP, va_K.moved (u := U) (U := U.calling g mk a) (Vm.Alike.refl U.vm) qK⟩, (hal).recv hK hP (fun q hq => List.mem_append_right _ hq), fun U hU hW => ⟨rfl, by rw [hU]; exact hPc, va_K.moved hW.alike hKc⟩⟩ rfl rfl hl.1 rfl (lv_room (Nat.le_of_ble_eq_true rfl)) d_PA_placeToAdd_49 ⟨Nat.le_of_ble_eq_true rfl, Nat.le_of_ble_eq_true rfl⟩) (fun r6 hw7 => ?_)
      have hw7 : r6 = nI xs.length := hw7
      obtain rfl := hw7
      refine lv_goto (tgt := 59) hx hb d_PA_placeToAdd_52 rfl ?_
      refine lv_istore_n hx hb d_PA_placeToAdd_59 rfl hl (by decide) rfl (fun ls hl => ?_)
      have hl : lv_has ls 3 [(2, .int (nI xs.length)), (0, .ref a), (1, .ref p1)] := hl
      refine lv_aload_n hx hb d_PA_placeToAdd_60 rfl (lv_at hl 1 rfl) ?_
      obtain ⟨qz8, hz8⟩ := List.getElem?_of_mem (List.mem_append_right [] hc)
      refine va_get (D := (dC, dI)) (ci := 3) (v := .int kd) (C := R_VA) (T := T_VA) (N := 7) hx hb htb in_VA hown hK hP qz8 hz8 rfl 0 (by decide) (htb _ m_382) (fun _ h9 => h9) rfl d_PA_placeToAdd_61 ?_
      refine lv_iconst (v := 3) hx hb d_PA_placeToAdd_64 (by decide) ?_
      refine lv_icmp_ne (tgt := 83) hx hb d_PA_placeToAdd_65 rfl (fun h4 => ?_) (fun h4 => ?_)
      · have h4 : ¬ kk = 5 := fun h => h4 ((hhd.kind.2.1).mpr h)
        refine lv_iconst (v := (-1)) hx hb d_PA_placeToAdd_83 (by decide) ?_
        have hP9 := zz_pickP (pre := []) (fz := fz) (wc := []) hP [] rfl
        have hD9 := zz_pickD (pre := []) (fz := fz) (wc := []) hD [] (by decide) rfl
        have hK9 := hK.sub (tys' := [(cB, .byte), (cO, .object "java/lang/Object")]) [0, 1] rfl
        refine W.widen (k := 0) (n := 0) (Nat.le_of_ble_eq_true rfl) (Nat.le_of_ble_eq_true rfl) ?_
        exact W.iret (v := (-1)) hx hb hr (fun t ht hW => ⟨⟨(-1), (), rfl, by rw [plc_none (fun h => h4 (hhk.symm.trans h)) (fun h => h1 (hhk.symm.trans h))]; rfl, ⟨by rw [ht]; exact hP9, va_K.moved hW.alike hK9, hD9⟩⟩, hS.F ht⟩) hS.2.2 d_PA_placeToAdd_84
      · have h4 : kk = 5 := (hhd.kind.2.1).mp h4
        refine lv_iload_n hx hb d_PA_placeToAdd_68 rfl (lv_at hl 0 rfl) ?_
        refine lv_aload_n hx hb d_PA_placeToAdd_69 rfl (lv_at hl 1 rfl) ?_
        obtain ⟨qz9, hz9⟩ := List.getElem?_of_mem (List.mem_append_right [] hc)
        refine va_get (D := (dC, dI)) (ci := 3) (v := .ref pa) (C := R_VA) (T := T_VA) (N := 7) hx hb htb in_VA hown hK hP qz9 hz9 rfl 4 (by decide) (htb _ m_397) (fun _ h9 => h9) rfl d_PA_placeToAdd_70 ?_
        have hPc : va_P (dC, dI) vwCl ([] ++ fz) _ := zz_tlP (pre := []) (tl := fz) hP
        have hKc := hK.sub (tys' := []) [] rfl
        refine vp_callSi (W.runV (As := []) (rest := [.int (nI xs.length)]) ⟨hx, hb, hml, hown, htb⟩ (z_AL_size l dC dI pa xs cO em fz hal) (cwV 0 htb (g_V (fun _ h => h) m_486 m_773 m_484 m_485 m_8) rfl rfl rfl (by decide +kernel) ⟨Nat.le_of_ble_eq_true rfl, Nat.le_of_ble_eq_true rfl⟩) ⟨fun a U g mk q => by obtain ⟨q0, qP, qK⟩ := q; exact ⟨q0, qP, va_K.moved (u := U) (U := U.calling g mk a) (Vm.Alike.refl U.vm) qK⟩, (hal).recv hK hP (fun q hq => List.mem_append_right _ hq), fun U hU hW => ⟨rfl, by rw [hU]; exact hPc, va_K.moved hW.alike hKc⟩⟩ rfl rfl hl.1 rfl (lv_room (Nat.le_of_ble_eq_true rfl)) d_PA_placeToAdd_73 ⟨Nat.le_of_ble_eq_true rfl, Nat.le_of_ble_eq_true rfl⟩) (fun r10 hw11 => ?_)
        have hw11 : r10 = nI xs.length := hw11
        obtain rfl := hw11
        refine lv_icmp_gt (tgt := 83) hx hb d_PA_placeToAdd_76 rfl (fun h9 => absurd h9 (fun h => absurd ((nI_ltI (by omega) (by omega)).mp h) (Nat.lt_irrefl _))) (fun _ => ?_)
        refine lv_iload_n hx hb d_PA_placeToAdd_79 rfl (lv_at hl 0 rfl) ?_
        refine lv_goto (tgt := 84) hx hb d_PA_placeToAdd_80 rfl ?_
        have hP9 := zz_pickP (pre := []) (fz := fz) (wc := []) hP [] rfl
        have hD9 := zz_pickD (pre := []) (fz := fz) (wc := []) hD [] (by decide) rfl
        have hK9 := hK.sub (tys' := [(cB, .byte), (cO, .object "java/lang/Object")]) [0, 1] rfl
        refine W.widen (k := 0) (n := 0) (Nat.le_of_ble_eq_true rfl) (Nat.le_of_ble_eq_true rfl) ?_
        exact W.iret (v := (nI xs.length)) hx hb hr (fun t ht hW => ⟨⟨(nI xs.length), (), rfl, by rw [heq, plc_dash (hhk.trans h4), ← hrl]; rfl, ⟨by rw [ht]; exact hP9, va_K.moved hW.alike hK9, hD9⟩⟩, hS.F ht⟩) hS.2.2 d_PA_placeToAdd_84
  · have h1 : kk = 6 := (hhd.kind.1).mp h1
    have hp6 := plc_6 (s := s1) (hhk.trans h1)
    refine lv_aload_n hx hb d_PA_placeToAdd_8 rfl (lv_at hl 0 rfl) ?_
    refine lv_aload_n hx hb d_PA_placeToAdd_9 rfl (lv_at hl 1 rfl) ?_
    obtain ⟨qz2, hz2⟩ := List.getElem?_of_mem (List.mem_append_right [] hpc)
    refine va_get (D := (dC, dI)) (ci := 5) (v := .ref st) (C := R_PT) (T := T_PT) (N := 3) hx hb htb in_PT hown hK hP qz2 hz2 rfl 0 (by decide) (htb _ m_627) (fun _ h9 => h9) rfl d_PA_placeToAdd_10 ?_
    have hPc := zz_pickP (pre := []) (fz := fz) (wc := []) hP [] rfl
    have hDc := zz_pickD (pre := []) (fz := fz) (wc := []) hD [] (by decide) rfl
    have hFc := zz_free (pre := []) (fz := fz) (wc := []) hD hS hA [] rfl
    have hKc := hK.sub (tys' := [(cB, .byte), (cO, .object "java/lang/Object")]) [0, 1] rfl
    refine va_calli (va_runV (As := [.ref st]) (rest := []) ⟨hx, hb, hml, hown, htb⟩ (k_VA_placeOfMember l dC dI _ a d nn rows st s1 cB cO em aK aV fz hv hst) (cwV 1 htb (g_V (fun _ h => h) m_597 m_818 m_595 m_596 m_18) rfl rfl rfl (by decide +kernel) ⟨Nat.le_of_ble_eq_true rfl, Nat.le_of_ble_eq_true rfl⟩) ⟨fun a U g mk q => by obtain ⟨q0, q1, qP, qK, qD, z0⟩ := q; exact ⟨q0, q1, qP, va_K.moved (u := U) (U := U.calling g mk a) (Vm.Alike.refl U.vm) qK, qD, EX.same (U := U) (U' := U.calling g mk a) rfl z0⟩, zz_recv hK hP (ci := 3) rfl (List.mem_append_right _ hc), fun U hU hW => ⟨rfl, by rw [hU], by rw [hU]; exact hPc, va_K.moved hW.alike hKc, hDc.weaken (fun _ _ _ _ => trivial), by rw [hU]; exact EX.warm hW ((hE.kept (fun a h1 h2 => hS.2.1 a h1 h2)).narrow hFc)⟩⟩ rfl rfl hl.1 rfl (lv_room (Nat.le_of_ble_eq_true rfl)) d_PA_placeToAdd_13 ⟨Nat.le_of_ble_eq_true rfl, Nat.le_of_ble_eq_true rfl⟩) hS (fun q _ h => hFc q h) hFc (fun r4 u3 t H1 locs ht hvm hw5 hB hz1 hk1 hS => ?_)
    obtain ⟨hP1, hK1, hD1⟩ := hB
    rw [ht] at hP1
    have hK1 := va_K.moved hvm.symm hK1
    have hw5 : r4 = oI (mpl rows s1) := hw5
    obtain ⟨hP, hD⟩ := zz_join (pre := []) (fz := fz) (wc := []) (wr := []) (w1 := ([] ++ fz)) hP hD [] [] rfl rfl (by decide) (by decide) hk1 hFc hP1 hD1
    have hK := (hK.sub (tys' := []) [] rfl).app hK1
    generalize H1 = H at hP hS ⊢
    have hP : va_P (dC, dI) vwCl ([] ++ fz) H := hP
    have hD : va_D A ([] ++ fz) := hD
    have hK : va_K (dC, dI) vwCl [(cB, .byte), (cO, .object "java/lang/Object")] s := hK
    obtain rfl := hw5
    refine lv_istore_n hx hb d_PA_placeToAdd_16 rfl hl (by decide) rfl (fun ls hl => ?_)
    have hl : lv_has ls 3 [(2, .int (oI (mpl rows s1))), (0, .ref a), (1, .ref p1)] := hl
    refine lv_iload_n hx hb d_PA_placeToAdd_17 rfl (lv_at hl 0 rfl) ?_
    rcases hm : mpl rows s1 with _ | t0
    · have hm2 : oI (mpl rows s1) = -1 := by rw [hm]; rfl
      refine W.eq (g2 := F0 m 18 ls [.int (-1)]) rfl ?_
      refine lv_if_ge (tgt := 31) hx hb d_PA_placeToAdd_18 rfl (fun h9 => absurd h9 (by decide)) (fun _ => ?_)
      refine lv_aload_n hx hb d_PA_placeToAdd_21 rfl (lv_at hl 1 rfl) ?_
      obtain ⟨qz7, hz7⟩ := List.getElem?_of_mem (List.mem_append_right [] hc)
      refine va_get (D := (dC, dI)) (ci := 3) (v := .ref pa) (C := R_VA) (T := T_VA) (N := 7) hx hb htb in_VA hown hK hP qz7 hz7 rfl 4 (by decide) (htb _ m_397) (fun _ h9 => h9) rfl d_PA_placeToAdd_22 ?_
      have hPc : va_P (dC, dI) vwCl ([] ++ fz) _ := zz_tlP (pre := []) (tl := fz) hP
      have hKc := hK.sub (tys' := []) [] rfl
      refine vp_callSi (W.runV (As := []) (rest := []) ⟨hx, hb, hml, hown, htb⟩ (z_AL_size l dC dI pa xs cO em fz hal) (cwV 0 htb (g_V (fun _ h => h) m_486 m_773 m_484 m_485 m_8) rfl rfl rfl (by decide +kernel) ⟨Nat.le_of_ble_eq_true rfl, Nat.le_of_ble_eq_true rfl⟩) ⟨fun a U g mk q => by obtain ⟨q0, qP, qK⟩ := q; exact ⟨q0, qP, va_K.moved (u := U) (U := U.calling g mk a) (Vm.Alike.refl U.vm) qK⟩, (hal).recv hK hP (fun q hq => List.mem_append_right _ hq), fun U hU hW => ⟨rfl, by rw [hU]; exact hPc, va_K.moved hW.alike hKc⟩⟩ rfl rfl hl.1 rfl (lv_room (Nat.le_of_ble_eq_true rfl)) d_PA_placeToAdd_25 ⟨Nat.le_of_ble_eq_true rfl, Nat.le_of_ble_eq_true rfl⟩) (fun r8 hw9 => ?_)
      have hw9 : r8 = nI xs.length := hw9
      obtain rfl := hw9
      refine lv_goto (tgt := 32) hx hb d_PA_placeToAdd_28 rfl ?_
      have hP9 := zz_pickP (pre := []) (fz := fz) (wc := []) hP [] rfl
      have hD9 := zz_pickD (pre := []) (fz := fz) (wc := []) hD [] (by decide) rfl
      have hK9 := hK.sub (tys' := [(cB, .byte), (cO, .object "java/lang/Object")]) [0, 1] rfl
      refine W.widen (k := 0) (n := 0) (Nat.le_of_ble_eq_true rfl) (Nat.le_of_ble_eq_true rfl) ?_
      exact W.iret (v := (nI xs.length)) hx hb hr (fun t ht hW => ⟨⟨(nI xs.length), (), rfl, by rw [hp6, hm, ← hrl]; rfl, ⟨by rw [ht]; exact hP9, va_K.moved hW.alike hK9, hD9⟩⟩, hS.F ht⟩) hS.2.2 d_PA_placeToAdd_32
    · have htl : t0 < 1000 := by unfold mpl at hm; rw [if_pos (hhk.trans h1)] at hm; have := (nix_lt hm).1; rw [hns h1] at this; omega
      have hm2 : oI (mpl rows s1) = nI t0 := by rw [hm]; rfl
      rw [hm2] at hl
      have hl : lv_has ls 3 [(2, .int (nI t0)), (0, .ref a), (1, .ref p1)] := hl
      refine W.eq (g2 := F0 m 18 ls [.int (nI t0)]) rfl ?_
      refine lv_if_ge (tgt := 31) hx hb d_PA_placeToAdd_18 rfl (fun _ => ?_) (fun h9 => absurd (nI_nn t0 (by omega)) h9)
      refine lv_iload_n hx hb d_PA_placeToAdd_31 rfl (lv_at hl 0 rfl) ?_
      have hP9 := zz_pickP (pre := []) (fz := fz) (wc := []) hP [] rfl
      have hD9 := zz_pickD (pre := []) (fz := fz) (wc := []) hD [] (by decide) rfl
      have hK9 := hK.sub (tys' := [(cB, .byte), (cO, .object "java/lang/Object")]) [0, 1] rfl
      refine W.widen (k := 0) (n := 0) (Nat.le_of_ble_eq_true rfl) (Nat.le_of_ble_eq_true rfl) ?_
      exact W.iret (v := (nI t0)) hx hb hr (fun t ht hW => ⟨⟨(nI t0), (), rfl, by rw [hp6, hm]; rfl, ⟨by rw [ht]; exact hP9, va_K.moved hW.alike hK9, hD9⟩⟩, hS.F ht⟩) hS.2.2 d_PA_placeToAdd_32
set_option maxHeartbeats 1000000 in
set_option maxRecDepth 100000 in
/-- edited(at, way, kind, value) -/
theorem k_PA_editedV (l : Launch) (dC : Nat → ClassId) (dI : Nat → Nat → Nat) (sz : Nat) (a : Nat) (d : Nat) (nn : List Nat) (rows : List Row) (p1 : Nat) (ss : List (List Nat)) (kdN : Nat) (yv : Nat) (dv : Nat) (nv : List Nat) (vr : List Row) (cB : ClassId) (cO : ClassId) (em : Nat) (aK : Nat → Nat) (aV : Nat → Nat) (fz : va_W) (hv : VT cB cO em aK d fz a nn rows) (hpt : PTz cB aK fz ss p1) (hsz : rows.length ≤ 33) (hdd : (d + dv) < 90) (hkd : kdN = 1 ∨ kdN = 3) (hvv : VT cB cO em aK dv fz yv nv vr) (HR : ∀ s1 ss1, ss = s1 :: ss1 → C_PA_editedV ss1) : Met l y_PA_edited ws_PA_edited ({ frames := (20 + 2 * ss.length), cells := (7 * ss.length), slots := (97 * ss.length), locals := (500 + 80 * ss.length) }) (va_Pc [.ref a, .ref p1, .int (nI kdN), .ref yv] (fun U => U.heap.size = sz ∧ va_P (dC, dI) vwCl ([] ++ fz) U.heap ∧ va_K (dC, dI) vwCl [(cB, .byte), (cO, .object "java/lang/Object")] U ∧ va_D (fun _ => True) ([] ++ fz) ∧ EX em aK aV (va_A ([] ++ fz) sz) U U.heap)) (va_Qq (fun (r : Option Nat) (u : va_W) => (r = none ∧ edt kdN vr ss rows = none) ∨ ∃ y8 n8 w8, r = some y8 ∧ edt kdN vr ss rows = some w8 ∧ VT cB cO em aK (d + dv) (u ++ fz) y8 n8 w8) (fun u t => va_P (dC, dI) vwCl ([] ++ (u ++ fz)) t.heap ∧ va_K (dC, dI) vwCl [(cB, .byte), (cO, .object "java/lang/Object")] t ∧ va_D (va_A ([] ++ fz) sz) ([] ++ (u ++ fz))) (va_A ([] ++ fz) sz)) (7 * ss.length) (97 * ss.length) (va_A ([] ++ fz) sz) := by
  refine Met.ofW (cc := c_PA_edited) (maxL := 8) (ret := (some (.object "PatchStore$Value"))) (by decide) rfl ?_
  intro p e s m args below meth c s₁ B hml hv
  obtain ⟨hargs, hsz, hP, hK, hD0, hE⟩ := hv
  rw [show entryFrame m args 8 = entryFrame m ([.ref a, .ref p1, .int (nI kdN), .ref yv]).toArray 8 by rw [hargs]]
  have hx := B.exec
  have hb := B.bytes
  have hr := B.returns
  have hts := atoms_spec (ws := ws_PA_edited) B.pre
  have htb := fun w (h : w ∈ TBL) => hts w (List.mem_cons_of_mem _ h)
  have hown : s.vm.findClass R_PA = some m.cls := findClass_of_methodNamed B.named
  have hlocks := B.notSynchronized
  subst hsz
  have hD := hD0.self (sz := s.heap.size)
  generalize hAe : va_A ([] ++ fz) s.heap.size = A at hD hE ⊢
  have hA : ∀ q : Nat, s.heap.size ≤ q → A q := fun q h => by rw [← hAe]; exact Or.inr h
  have hS : va_S A s.heap s.heap [] := va_S.rf
  have hP : va_P (dC, dI) vwCl ([] ++ fz) s.heap := hP
  have hl := lv_entry ([.ref a, .ref p1, .int (nI kdN), .ref yv]) (n := 8) (Nat.le_of_ble_eq_true rfl)
  rw [lg_entry_eq]
  generalize (lg_sl ([.ref a, .ref p1, .int (nI kdN), .ref yv]) ++ List.replicate (8 - (lg_sl ([.ref a, .ref p1, .int (nI kdN), .ref yv])).length) Slot.unset).toArray = ls at hl ⊢
  have hl : lv_has ls 8 [(0, .ref a), (1, .ref p1), (2, .int (nI kdN)), (3, .ref yv)] := hl
  refine zz_nQ (fun Q hQ => ?_)
  obtain hs0 | ⟨s1, ss1, hs0⟩ : ss = [] ∨ ∃ s1 ss1, ss = s1 :: ss1 := by cases ss with | nil => exact Or.inl rfl | cons a b => exact Or.inr ⟨a, b, rfl⟩
  · have hpt1 : PTz cB aK fz [] p1 := hs0 ▸ hpt
    refine lv_aload_n hx hb d_PA_edited_0 rfl (lv_at hl 1 rfl) ?_
    have hPc := zz_pickP (pre := []) (fz := fz) (wc := []) hP [] rfl
    have hDc := zz_pickD (pre := []) (fz := fz) (wc := []) hD [] (by decide) rfl
    have hFc := zz_free (pre := []) (fz := fz) (wc := []) hD hS hA [] rfl
    have hKc := hK.sub (tys' := []) [] rfl
    refine va_calli (va_runV (As := []) (rest := []) ⟨hx, hb, hml, hown, htb⟩ (k_PT_hasNoStep l dC dI _ p1 ([] : List (List Nat)) cB em aK aV fz hpt1) (cwV 0 htb (g_V (fun _ h => h) m_810 m_807 m_808 m_809 m_21) rfl rfl rfl (by decide +kernel) ⟨(by show 1 ≤ (20 + 2 * ss.length); omega), (by show 20 ≤ (500 + 80 * ss.length); omega)⟩) ⟨fun a U g mk q => by obtain ⟨q0, q1, qP, qK, qD, z0⟩ := q; exact ⟨q0, q1, qP, va_K.moved (u := U) (U := U.calling g mk a) (Vm.Alike.refl U.vm) qK, qD, EX.same (U := U) (U' := U.calling g mk a) rfl z0⟩, zz_recv hK hP (ci := 5) rfl (List.mem_append_right _ hpt1.cell.choose_spec), fun U hU hW => ⟨rfl, by rw [hU], by rw [hU]; exact hPc, va_K.moved hW.alike hKc, hDc.weaken (fun _ _ _ _ => trivial), by rw [hU]; exact EX.warm hW ((hE.kept (fun a h1 h2 => hS.2.1 a h1 h2)).narrow hFc)⟩⟩ rfl rfl hl.1 rfl (lv_room (Nat.le_of_ble_eq_true rfl)) d_PA_edited_1 ⟨(by show 0 ≤ (7 * ss.length); omega), (by show 0 ≤ (97 * ss.length); omega)⟩) hS (fun q _ h => hFc q h) hFc (fun r2 u1 t H1 locs ht hvm hw3 hB hz1 hk1 hS => ?_)
    obtain ⟨hP1, hK1, hD1⟩ := hB
    rw [ht] at hP1
    have hK1 := va_K.moved hvm.symm hK1
    have hw3 : r2 = bI (decide (([] : List (List Nat)).length = 0)) := hw3
    obtain ⟨hP, hD⟩ := zz_join (pre := []) (fz := fz) (wc := []) (wr := []) (w1 := ([] ++ fz)) hP hD [] [] rfl rfl (by decide) (by decide) hk1 hFc hP1 hD1
    have hK := (hK.sub (tys' := [(cB, .byte), (cO, .object "java/lang/Object")]) [0, 1] rfl).app hK1
    generalize H1 = H at hP hS ⊢
    have hP : va_P (dC, dI) vwCl ([] ++ fz) H := hP
    have hD : va_D A ([] ++ fz) := hD
    have hK : va_K (dC, dI) vwCl [(cB, .byte), (cO, .object "java/lang/Object")] s := hK
    refine lv_if_eq (tgt := 9) hx hb d_PA_edited_4 rfl (fun h9 => absurd h9 (by rw [hw3]; decide)) (fun _ => ?_)
    refine lv_aload_n hx hb d_PA_edited_7 rfl (lv_at hl 3 rfl) ?_
    have hP9 := zz_pickP (pre := []) (fz := fz) (wc := []) hP [] rfl
    have hD9 := zz_pickD (pre := []) (fz := fz) (wc := []) hD [] (by decide) rfl
    have hK9 := hK.sub (tys' := [(cB, .byte), (cO, .object "java/lang/Object")]) [0, 1] rfl
    rw [hQ]
    refine W.widen (k := (7 * ss.length)) (n := (97 * ss.length)) ((by show 0 ≤ (7 * ss.length); omega)) ((by show 0 ≤ (97 * ss.length); omega)) ?_
    exact W.aret (v := .ref yv) hx hb hr (Or.inl ⟨_, rfl⟩) (Or.inr ⟨_, rfl⟩) (fun t ht hW => ⟨⟨(some yv), ([] : va_W), rfl, Or.inr ⟨_, _, _, rfl, by rw [hs0, edt, if_neg (by rcases hkd with h | h <;> omega)], hvv.up (by omega)⟩, ⟨by rw [ht]; exact hP9, va_K.moved hW.alike hK9, hD9⟩⟩, hS.F ht⟩) hS.2.2 d_PA_edited_8
  · obtain ⟨d1, rfl⟩ := hv.succ
    have hpt1 : PTz cB aK fz (s1 :: ss1) p1 := hs0 ▸ hpt
    have hsl0 : ss.length = ss1.length + 1 := by rw [hs0]; rfl
    obtain ⟨st, b, hpc, hst, hcc, hrest⟩ := (id hpt1 : PTz cB aK fz (s1 :: ss1) p1)
    obtain ⟨kd, tx, nu, nm, pa, dp, cn, tt, kk, num, rt, xs, ns, hc, htx, hnm, hal, hhd, hnl, hrl, hk5, hvl, hhk, hns, hdp, hcn, hrw, h160⟩ := (id hv : VT cB cO em aK (d1 + 1) fz a nn rows).opn
    have hwr := hv.wr
    have hkl := ks_le hwr
    have hlc : (s1 :: ss1).length = ss1.length + 1 := rfl
    refine lv_aload_n hx hb d_PA_edited_0 rfl (lv_at hl 1 rfl) ?_
    have hPc := zz_pickP (pre := []) (fz := fz) (wc := []) hP [] rfl
    have hDc := zz_pickD (pre := []) (fz := fz) (wc := []) hD [] (by decide) rfl
    have hFc := zz_free (pre := []) (fz := fz) (wc := []) hD hS hA [] rfl
    have hKc := hK.sub (tys' := []) [] rfl
    refine va_calli (va_runV (As := []) (rest := []) ⟨hx, hb, hml, hown, htb⟩ (k_PT_hasNoStep l dC dI _ p1 (s1 :: ss1) cB em aK aV fz hpt1) (cwV 0 htb (g_V (fun _ h => h) m_810 m_807 m_808 m_809 m_21) rfl rfl rfl (by decide +kernel) ⟨(by show 1 ≤ (20 + 2 * ss.length); omega), (by show 20 ≤ (500 + 80 * ss.length); omega)⟩) ⟨fun a U g mk q => by obtain ⟨q0, q1, qP, qK, qD, z0⟩ := q; exact ⟨q0, q1, qP, va_K.moved (u := U) (U := U.calling g mk a) (Vm.Alike.refl U.vm) qK, qD, EX.same (U := U) (U' := U.calling g mk a) rfl z0⟩, zz_recv hK hP (ci := 5) rfl (List.mem_append_right _ hpc), fun U hU hW => ⟨rfl, by rw [hU], by rw [hU]; exact hPc, va_K.moved hW.alike hKc, hDc.weaken (fun _ _ _ _ => trivial), by rw [hU]; exact EX.warm hW ((hE.kept (fun a h1 h2 => hS.2.1 a h1 h2)).narrow hFc)⟩⟩ rfl rfl hl.1 rfl (lv_room (Nat.le_of_ble_eq_true rfl)) d_PA_edited_1 ⟨(by show 0 ≤ (7 * ss.length); omega), (by show 0 ≤ (97 * ss.length); omega)⟩) hS (fun q _ h => hFc q h) hFc (fun r2 u1 t H1 locs ht hvm hw3 hB hz1 hk1 hS => ?_)
    obtain ⟨hP1, hK1, hD1⟩ := hB
    rw [ht] at hP1
    have hK1 := va_K.moved hvm.symm hK1
    have hw3 : r2 = bI (decide ((s1 :: ss1).length = 0)) := hw3
    obtain ⟨hP, hD⟩ := zz_join (pre := []) (fz := fz) (wc := []) (wr := []) (w1 := ([] ++ fz)) hP hD [] [] rfl rfl (by decide) (by decide) hk1 hFc hP1 hD1
    have hK := (hK.sub (tys' := [(cB, .byte), (cO, .object "java/lang/Object")]) [0, 1] rfl).app hK1
    generalize H1 = H at hP hS ⊢
    have hP : va_P (dC, dI) vwCl ([] ++ fz) H := hP
    have hD : va_D A ([] ++ fz) := hD
    have hK : va_K (dC, dI) vwCl [(cB, .byte), (cO, .object "java/lang/Object")] s := hK
    refine lv_if_eq (tgt := 9) hx hb d_PA_edited_4 rfl (fun _ => ?_) (fun h9 => absurd (by rw [hw3, decide_eq_false (by simp)]; rfl) h9)
    refine lv_iload_n hx hb d_PA_edited_9 rfl (lv_at hl 2 rfl) ?_
    refine lv_iconst (v := 1) hx hb d_PA_edited_10 (by decide) ?_
    rcases (id hkd : kdN = 1 ∨ kdN = 3) with hkA | hkB
    · refine lv_icmp_ne (tgt := 25) hx hb d_PA_edited_11 rfl (fun h9 => absurd (by rw [hkA]; rfl) h9) (fun _ => ?_)
      refine lv_aload_n hx hb d_PA_edited_14 rfl (lv_at hl 1 rfl) ?_
      have hPc := zz_pickP (pre := []) (fz := fz) (wc := []) hP [] rfl
      have hDc := zz_pickD (pre := []) (fz := fz) (wc := []) hD [] (by decide) rfl
      have hFc := zz_free (pre := []) (fz := fz) (wc := []) hD hS hA [] rfl
      have hKc := hK.sub (tys' := []) [] rfl
      refine va_calli (va_runV (As := []) (rest := []) ⟨hx, hb, hml, hown, htb⟩ (k_PT_hasOneStep l dC dI _ p1 (s1 :: ss1) cB em aK aV fz hpt1) (cwV 0 htb (g_V (fun _ h => h) m_814 m_811 m_812 m_813 m_21) rfl rfl rfl (by decide +kernel) ⟨(by show 1 ≤ (20 + 2 * ss.length); omega), (by show 20 ≤ (500 + 80 * ss.length); omega)⟩) ⟨fun a U g mk q => by obtain ⟨q0, q1, qP, qK, qD, z0⟩ := q; exact ⟨q0, q1, qP, va_K.moved (u := U) (U := U.calling g mk a) (Vm.Alike.refl U.vm) qK, qD, EX.same (U := U) (U' := U.calling g mk a) rfl z0⟩, zz_recv hK hP (ci := 5) rfl (List.mem_append_right _ hpc), fun U hU hW => ⟨rfl, by rw [hU], by rw [hU]; exact hPc, va_K.moved hW.alike hKc, hDc.weaken (fun _ _ _ _ => trivial), by rw [hU]; exact EX.warm hW ((hE.kept (fun a h1 h2 => hS.2.1 a h1 h2)).narrow hFc)⟩⟩ rfl rfl hl.1 rfl (lv_room (Nat.le_of_ble_eq_true rfl)) d_PA_edited_15 ⟨(by show 0 ≤ (7 * ss.length); omega), (by show 0 ≤ (97 * ss.length); omega)⟩) hS (fun q _ h => hFc q h) hFc (fun r6 u5 t H1 locs ht hvm hw7 hB hz1 hk1 hS => ?_)
      obtain ⟨hP1, hK1, hD1⟩ := hB
      rw [ht] at hP1
      have hK1 := va_K.moved hvm.symm hK1
      have hw7 : r6 = bI (decide ((s1 :: ss1).length = 1)) := hw7
      obtain ⟨hP, hD⟩ := zz_join (pre := []) (fz := fz) (wc := []) (wr := []) (w1 := ([] ++ fz)) hP hD [] [] rfl rfl (by decide) (by decide) hk1 hFc hP1 hD1
      have hK := (hK.sub (tys' := [(cB, .byte), (cO, .object "java/lang/Object")]) [0, 1] rfl).app hK1
      generalize H1 = H at hP hS ⊢
      have hP : va_P (dC, dI) vwCl ([] ++ fz) H := hP
      have hD : va_D A ([] ++ fz) := hD
      have hK : va_K (dC, dI) vwCl [(cB, .byte), (cO, .object "java/lang/Object")] s := hK
      by_cases hss : ss1 = []
      · have hed : edt kdN vr (s1 :: ss1) rows = (plc rows s1).map (fun t => if hdK rows = 5 ∨ t = (ksR rows).length then spc rows t 0 [(s1, vr)] else spc rows t 1 [((ksN rows).getD t [], vr)]) := by rw [edt, if_pos hss, ed1, if_pos hkA]
        refine lv_if_eq (tgt := 25) hx hb d_PA_edited_18 rfl (fun h9 => absurd h9 (by rw [hw7, decide_eq_true (by rw [hlc, hss]; rfl)]; decide)) (fun _ => ?_)
        refine lv_iconst (v := 1) hx hb d_PA_edited_21 (by decide) ?_
        refine lv_goto (tgt := 26) hx hb d_PA_edited_22 rfl ?_
        refine lv_istore hx hb d_PA_edited_26 hl (by decide) rfl (fun ls hl => ?_)
        have hl : lv_has ls 8 [(4, .int 1), (0, .ref a), (1, .ref p1), (2, .int (nI kdN)), (3, .ref yv)] := hl
        refine lv_iload hx hb d_PA_edited_28 (lv_at hl 0 rfl) ?_
        refine lv_if_eq (tgt := 41) hx hb d_PA_edited_30 rfl (fun h9 => absurd h9 (by decide)) (fun _ => ?_)
        refine lv_aload_n hx hb d_PA_edited_33 rfl (lv_at hl 1 rfl) ?_
        refine lv_aload_n hx hb d_PA_edited_34 rfl (lv_at hl 2 rfl) ?_
        have hPc := zz_pickP (pre := []) (fz := fz) (wc := []) hP [] rfl
        have hDc := zz_pickD (pre := []) (fz := fz) (wc := []) hD [] (by decide) rfl
        have hFc := zz_free (pre := []) (fz := fz) (wc := []) hD hS hA [] rfl
        have hKc := hK.sub (tys' := [(cB, .byte), (cO, .object "java/lang/Object")]) [0, 1] rfl
        refine va_calli (va_runS (As := [.ref a, .ref p1]) (rest := []) ⟨hx, hb, hml, hown, htb⟩ (k_PA_placeToAdd l dC dI _ a d1 nn rows p1 s1 ss1 cB cO em aK aV fz hv hpt1) (va_cwS 2 htb (g_S (fun _ h => h) m_817 m_815 m_816 m_23) rfl rfl rfl (by decide +kernel) ⟨(by show 5 ≤ (20 + 2 * ss.length); omega), (by show 108 ≤ (500 + 80 * ss.length); omega)⟩) ⟨fun a U g mk q => by obtain ⟨q0, q1, qP, qK, qD, z0⟩ := q; exact ⟨q0, q1, qP, va_K.moved (u := U) (U := U.calling g mk a) (Vm.Alike.refl U.vm) qK, qD, EX.same (U := U) (U' := U.calling g mk a) rfl z0⟩, fun U hU hW => ⟨rfl, by rw [hU], by rw [hU]; exact hPc, va_K.moved hW.alike hKc, hDc.weaken (fun _ _ _ _ => trivial), by rw [hU]; exact EX.warm hW ((hE.kept (fun a h1 h2 => hS.2.1 a h1 h2)).narrow hFc)⟩⟩ rfl rfl hl.1 rfl (lv_room (Nat.le_of_ble_eq_true rfl)) d_PA_edited_35 ⟨(by show 0 ≤ (7 * ss.length); omega), (by show 0 ≤ (97 * ss.length); omega)⟩) hS (fun q _ h => hFc q h) hFc (fun r10 u9 t H1 locs ht hvm hw11 hB hz1 hk1 hS => ?_)
        obtain ⟨hP1, hK1, hD1⟩ := hB
        rw [ht] at hP1
        have hK1 := va_K.moved hvm.symm hK1
        have hw11 : r10 = oI (plc rows s1) := hw11
        obtain ⟨hP, hD⟩ := zz_join (pre := []) (fz := fz) (wc := []) (wr := []) (w1 := ([] ++ fz)) hP hD [] [] rfl rfl (by decide) (by decide) hk1 hFc hP1 hD1
        have hK := (hK.sub (tys' := []) [] rfl).app hK1
        generalize H1 = H at hP hS ⊢
        have hP : va_P (dC, dI) vwCl ([] ++ fz) H := hP
        have hD : va_D A ([] ++ fz) := hD
        have hK : va_K (dC, dI) vwCl [(cB, .byte), (cO, .object "java/lang/Object")] s := hK
        obtain rfl := hw11
        refine lv_goto (tgt := 46) hx hb d_PA_edited_38 rfl ?_
        refine lv_istore hx hb d_PA_edited_46 hl (by decide) rfl (fun ls hl => ?_)
        have hl : lv_has ls 8 [(5, .int (oI (plc rows s1))), (4, .int 1), (0, .ref a), (1, .ref p1), (2, .int (nI kdN)), (3, .ref yv)] := hl
        refine lv_iload hx hb d_PA_edited_48 (lv_at hl 0 rfl) ?_
        rcases hm : plc rows s1 with _ | t0
        · have hm2 : oI (plc rows s1) = -1 := by rw [hm]; rfl
          refine W.eq (g2 := F0 m 50 ls [.int (-1)]) rfl ?_
          refine lv_if_ge (tgt := 55) hx hb d_PA_edited_50 rfl (fun h9 => absurd h9 (by decide)) (fun _ => ?_)
          refine lv_null hx hb d_PA_edited_53 ?_
          have hP9 := zz_pickP (pre := []) (fz := fz) (wc := []) hP [] rfl
          have hD9 := zz_pickD (pre := []) (fz := fz) (wc := []) hD [] (by decide) rfl
          have hK9 := hK.sub (tys' := [(cB, .byte), (cO, .object "java/lang/Object")]) [0, 1] rfl
          rw [hQ]
          refine W.widen (k := (7 * ss.length)) (n := (97 * ss.length)) ((by show 0 ≤ (7 * ss.length); omega)) ((by show 0 ≤ (97 * ss.length); omega)) ?_
          exact W.aret (v := .null) hx hb hr (Or.inl ⟨_, rfl⟩) (Or.inl rfl) (fun t ht hW => ⟨⟨none, ([] : va_W), rfl, Or.inl ⟨rfl, by rw [hs0, hed, hm]; rfl⟩, ⟨by rw [ht]; exact hP9, va_K.moved hW.alike hK9, hD9⟩⟩, hS.F ht⟩) hS.2.2 d_PA_edited_54
        · have hm2 : oI (plc rows s1) = nI t0 := by rw [hm]; rfl
          have htl : t0 ≤ xs.length := by have := (plc_kd hm).1; omega
          rw [hm2] at hl
          have hl : lv_has ls 8 [(5, .int (nI t0)), (4, .int 1), (0, .ref a), (1, .ref p1), (2, .int (nI kdN)), (3, .ref yv)] := hl
          refine W.eq (g2 := F0 m 50 ls [.int (nI t0)]) rfl ?_
          refine lv_if_ge (tgt := 55) hx hb d_PA_edited_50 rfl (fun _ => ?_) (fun h9 => absurd (nI_nn t0 (by omega)) h9)
          refine lv_iload hx hb d_PA_edited_55 (lv_at hl 1 rfl) ?_
          have hk56 := (plc_kd hm).2
          refine lv_if_eq (tgt := 96) hx hb d_PA_edited_57 rfl (fun h9 => absurd h9 (by decide)) (fun _ => ?_)
          refine lv_aload_n hx hb d_PA_edited_60 rfl (lv_at hl 2 rfl) ?_
          obtain ⟨qz13, hz13⟩ := List.getElem?_of_mem (List.mem_append_right [] hc)
          refine va_get (D := (dC, dI)) (ci := 3) (v := .int kd) (C := R_VA) (T := T_VA) (N := 7) hx hb htb in_VA hown hK hP qz13 hz13 rfl 0 (by decide) (htb _ m_382) (fun _ h9 => h9) rfl d_PA_edited_61 ?_
          refine lv_iconst (v := 3) hx hb d_PA_edited_64 (by decide) ?_
          refine lv_icmp_eq (tgt := 80) hx hb d_PA_edited_65 rfl (fun h7 => ?_) (fun h7 => ?_)
          · have h7 : kk = 5 := (hhd.kind.2.1).mp h7
            refine lv_aload_n hx hb d_PA_edited_80 rfl (lv_at hl 2 rfl) ?_
            refine lv_iload hx hb d_PA_edited_81 (lv_at hl 0 rfl) ?_
            refine lv_iconst (v := 0) hx hb d_PA_edited_83 (by decide) ?_
            refine lv_aload_n hx hb d_PA_edited_84 rfl (lv_at hl 5 rfl) ?_
            refine lv_aload_n hx hb d_PA_edited_85 rfl (lv_at hl 3 rfl) ?_
            obtain ⟨qz14, hz14⟩ := List.getElem?_of_mem (List.mem_append_right [] hpc)
            refine va_get (D := (dC, dI)) (ci := 5) (v := .ref st) (C := R_PT) (T := T_PT) (N := 3) hx hb htb in_PT hown hK hP qz14 hz14 rfl 0 (by decide) (htb _ m_627) (fun _ h9 => h9) rfl d_PA_edited_86 ?_
            obtain ⟨kd7, tx7, nu7, nm7, pa7, dp7, cn7, hc7, hren⟩ := (hvv).renamed
            have hPc := zz_pickP (pre := []) (fz := fz) (wc := []) hP [] rfl
            have hDc := zz_pickD (pre := []) (fz := fz) (wc := []) hD [] (by decide) rfl
            have hFc := zz_free (pre := []) (fz := fz) (wc := []) hD hS hA [] rfl
            have hKc := hK.sub (tys' := []) [] rfl
            refine va_callr (va_runV (As := [.ref st]) (rest := [.int 0, .int (nI t0), .ref a]) ⟨hx, hb, hml, hown, htb⟩ (k_VA_named l dC dI _ yv kd7 tx7 nu7 nm7 pa7 dp7 cn7 st fz hc7) (cwV 1 htb (g_V (fun _ h => h) m_518 m_822 m_516 m_517 m_18) rfl rfl rfl (by decide +kernel) ⟨(by show 3 ≤ (20 + 2 * ss.length); omega), (by show 55 ≤ (500 + 80 * ss.length); omega)⟩) ⟨fun a U g mk q => by obtain ⟨q0, q1, qP, qK, qD⟩ := q; exact ⟨q0, q1, qP, va_K.moved (u := U) (U := U.calling g mk a) (Vm.Alike.refl U.vm) qK, qD⟩, zz_recv hK hP (ci := 3) rfl (List.mem_append_right _ hc7), fun U hU hW => ⟨rfl, by rw [hU], by rw [hU]; exact hPc, va_K.moved hW.alike hKc, hDc.weaken (fun _ _ _ _ => trivial)⟩⟩ rfl rfl hl.1 rfl (lv_room (Nat.le_of_ble_eq_true rfl)) d_PA_edited_89 ⟨(by show 1 ≤ (7 * ss.length); omega), (by show 7 ≤ (97 * ss.length); omega)⟩) hS (fun q _ h => hFc q h) hFc (fun u15 ra18 t H1 locs ht hvm hw17 hB hz1 hk1 hS => ?_)
            obtain ⟨hP1, hK1, hD1⟩ := hB
            rw [ht] at hP1
            have hK1 := va_K.moved hvm.symm hK1
            have hw17 : True := hw17
            obtain ⟨hP, hD⟩ := zz_join (pre := []) (fz := fz) (wc := []) (wr := []) (w1 := ([(ra18, .inr (3, [.int kd7, .ref tx7, .long nu7, .ref st, .ref pa7, .int dp7, .int cn7]))] ++ fz)) hP hD [] [] rfl rfl (by decide) (by decide) hk1 hFc hP1 hD1
            have hK := (hK.sub (tys' := [(cB, .byte), (cO, .object "java/lang/Object")]) [0, 1] rfl).app hK1
            generalize H1 = H at hP hS ⊢
            have hP : va_P (dC, dI) vwCl ([(ra18, .inr (3, [.int kd7, .ref tx7, .long nu7, .ref st, .ref pa7, .int dp7, .int cn7]))] ++ fz) H := hP
            have hD : va_D A ([(ra18, .inr (3, [.int kd7, .ref tx7, .long nu7, .ref st, .ref pa7, .int dp7, .int cn7]))] ++ fz) := hD
            have hK : va_K (dC, dI) vwCl [(cB, .byte), (cO, .object "java/lang/Object")] s := hK
            refine W.widen (k := 1) (n := 7) (Nat.le_of_ble_eq_true rfl) (Nat.le_of_ble_eq_true rfl) ?_
            have hP := zz_pickP (pre := [(ra18, .inr (3, [.int kd7, .ref tx7, .long nu7, .ref st, .ref pa7, .int dp7, .int cn7]))]) (fz := fz) (wc := [(ra18, .inr (3, [.int kd7, .ref tx7, .long nu7, .ref st, .ref pa7, .int dp7, .int cn7]))]) hP [0] rfl
            have hD := zz_pickD (pre := [(ra18, .inr (3, [.int kd7, .ref tx7, .long nu7, .ref st, .ref pa7, .int dp7, .int cn7]))]) (fz := fz) (wc := [(ra18, .inr (3, [.int kd7, .ref tx7, .long nu7, .ref st, .ref pa7, .int dp7, .int cn7]))]) hD [0] (by decide) rfl
            have hP : va_P (dC, dI) vwCl ([] ++ ([(ra18, .inr (3, [.int kd7, .ref tx7, .long nu7, .ref st, .ref pa7, .int dp7, .int cn7]))] ++ fz)) _ := hP
            have hD : va_D A ([] ++ ([(ra18, .inr (3, [.int kd7, .ref tx7, .long nu7, .ref st, .ref pa7, .int dp7, .int cn7]))] ++ fz)) := hD
            have hgr0 : ∀ q ∈ fz, q ∈ ([(ra18, .inr (3, [.int kd7, .ref tx7, .long nu7, .ref st, .ref pa7, .int dp7, .int cn7]))] ++ fz) := fun q hq => List.mem_append_right _ hq
            have hvn := hren ([(ra18, .inr (3, [.int kd7, .ref tx7, .long nu7, .ref st, .ref pa7, .int dp7, .int cn7]))] ++ fz) ra18 st (s1) hgr0 (List.mem_append_left _ List.mem_cons_self) ((hst).mono hgr0)
            have hgr : ∀ q ∈ fz, q ∈ ([(ra18, .inr (3, [.int kd7, .ref tx7, .long nu7, .ref st, .ref pa7, .int dp7, .int cn7]))] ++ fz) := hgr0
            have hPc := zz_pickP (pre := []) (fz := ([(ra18, .inr (3, [.int kd7, .ref tx7, .long nu7, .ref st, .ref pa7, .int dp7, .int cn7]))] ++ fz)) (wc := []) hP [] rfl
            have hDc := zz_pickD (pre := []) (fz := ([(ra18, .inr (3, [.int kd7, .ref tx7, .long nu7, .ref st, .ref pa7, .int dp7, .int cn7]))] ++ fz)) (wc := []) hD [] (by decide) rfl
            have hFc := zz_free (pre := []) (fz := ([(ra18, .inr (3, [.int kd7, .ref tx7, .long nu7, .ref st, .ref pa7, .int dp7, .int cn7]))] ++ fz)) (wc := []) hD hS hA [] rfl
            have hKc := hK.sub (tys' := [(cB, .byte), (cO, .object "java/lang/Object")]) [0, 1] rfl
            refine va_callq (va_runV (As := [.int (nI t0), .int (nI 0), .ref ra18]) (rest := []) ⟨hx, hb, hml, hown, htb⟩ (k_VA_spliced1 l dC dI _ a (d1 + dv) nn rows t0 0 ra18 s1 vr cB cO em aK aV ([(ra18, .inr (3, [.int kd7, .ref tx7, .long nu7, .ref st, .ref pa7, .int dp7, .int cn7]))] ++ fz) ((hv.mono (fun q hq => hgr q hq)).up (by omega)) hk56 (by omega) (by omega) (by omega) (hvn.up (by omega))) (cwV 3 htb (g_V (fun _ h => h) m_826 m_823 m_824 m_825 m_18) rfl rfl rfl (by decide +kernel) ⟨(by show 8 ≤ (20 + 2 * ss.length); omega), (by show 196 ≤ (500 + 80 * ss.length); omega)⟩) ⟨fun a U g mk q => by obtain ⟨q0, q1, qP, qK, qD, z0⟩ := q; exact ⟨q0, q1, qP, va_K.moved (u := U) (U := U.calling g mk a) (Vm.Alike.refl U.vm) qK, qD, EX.same (U := U) (U' := U.calling g mk a) rfl z0⟩, zz_recv hK hP (ci := 3) rfl (List.mem_append_right _ (hgr _ hc)), fun U hU hW => ⟨rfl, by rw [hU], by rw [hU]; exact hPc, va_K.moved hW.alike hKc, hDc.weaken (fun _ _ _ _ => trivial), by rw [hU]; exact EX.warm hW ((hE.kept (fun a h1 h2 => hS.2.1 a h1 h2)).narrow hFc)⟩⟩ rfl rfl hl.1 rfl (lv_room (Nat.le_of_ble_eq_true rfl)) d_PA_edited_92 ⟨(by show (1 + 6) ≤ (7 * ss.length); omega), (by show (7 + 90) ≤ (97 * ss.length); omega)⟩) hS (fun q _ h => hFc q h) hFc (fun r20 u19 t H1 locs ht hvm hw21 hB hz1 hk1 hS => ?_)
            obtain ⟨hP1, hK1, hD1⟩ := hB
            rw [ht] at hP1
            have hK1 := va_K.moved hvm.symm hK1
            have hw21 : ∃ y8, r20 = some y8 ∧ VT cB cO em aK ((d1 + dv) + 1) (u19 ++ ([(ra18, .inr (3, [.int kd7, .ref tx7, .long nu7, .ref st, .ref pa7, .int dp7, .int cn7]))] ++ fz)) y8 nn (spc rows t0 0 [(s1, vr)]) := hw21
            obtain ⟨hP, hD⟩ := zz_join (pre := []) (fz := ([(ra18, .inr (3, [.int kd7, .ref tx7, .long nu7, .ref st, .ref pa7, .int dp7, .int cn7]))] ++ fz)) (wc := []) (wr := []) (w1 := ([] ++ (u19 ++ ([(ra18, .inr (3, [.int kd7, .ref tx7, .long nu7, .ref st, .ref pa7, .int dp7, .int cn7]))] ++ fz)))) hP hD [] [] rfl rfl (by decide) (by decide) hk1 hFc hP1 hD1
            have hK := (hK.sub (tys' := []) [] rfl).app hK1
            generalize H1 = H at hP hS ⊢
            have hP : va_P (dC, dI) vwCl ([] ++ (u19 ++ ([(ra18, .inr (3, [.int kd7, .ref tx7, .long nu7, .ref st, .ref pa7, .int dp7, .int cn7]))] ++ fz))) H := hP
            have hD : va_D A ([] ++ (u19 ++ ([(ra18, .inr (3, [.int kd7, .ref tx7, .long nu7, .ref st, .ref pa7, .int dp7, .int cn7]))] ++ fz))) := hD
            have hK : va_K (dC, dI) vwCl [(cB, .byte), (cO, .object "java/lang/Object")] s := hK
            obtain ⟨y9, hy9, hv9⟩ := hw21
            subst hy9
            refine W.eq (g2 := F0 m 95 ls [.ref y9]) rfl ?_
            have hP := zz_permP (pre := []) (t1 := (u19 ++ ([(ra18, .inr (3, [.int kd7, .ref tx7, .long nu7, .ref st, .ref pa7, .int dp7, .int cn7]))] ++ fz))) (t2 := ((u19 ++ [(ra18, .inr (3, [.int kd7, .ref tx7, .long nu7, .ref st, .ref pa7, .int dp7, .int cn7]))]) ++ fz)) hP (pm2 _ _ _)
            have hD := zz_permD (pre := []) (t1 := (u19 ++ ([(ra18, .inr (3, [.int kd7, .ref tx7, .long nu7, .ref st, .ref pa7, .int dp7, .int cn7]))] ++ fz))) (t2 := ((u19 ++ [(ra18, .inr (3, [.int kd7, .ref tx7, .long nu7, .ref st, .ref pa7, .int dp7, .int cn7]))]) ++ fz)) hD (pm2 _ _ _)
            have hP9 := zz_pickP (pre := []) (fz := ((u19 ++ [(ra18, .inr (3, [.int kd7, .ref tx7, .long nu7, .ref st, .ref pa7, .int dp7, .int cn7]))]) ++ fz)) (wc := []) hP [] rfl
            have hD9 := zz_pickD (pre := []) (fz := ((u19 ++ [(ra18, .inr (3, [.int kd7, .ref tx7, .long nu7, .ref st, .ref pa7, .int dp7, .int cn7]))]) ++ fz)) (wc := []) hD [] (by decide) rfl
            have hK9 := hK.sub (tys' := [(cB, .byte), (cO, .object "java/lang/Object")]) [0, 1] rfl
            rw [hQ]
            refine W.widen (k := (7 * ss.length)) (n := (97 * ss.length)) ((by show (1 + 6) ≤ (7 * ss.length); omega)) ((by show (7 + 90) ≤ (97 * ss.length); omega)) ?_
            exact W.aret (v := .ref y9) hx hb hr (Or.inl ⟨_, rfl⟩) (Or.inr ⟨_, rfl⟩) (fun t ht hW => ⟨⟨(some y9), (u19 ++ [(ra18, .inr (3, [.int kd7, .ref tx7, .long nu7, .ref st, .ref pa7, .int dp7, .int cn7]))]), rfl, Or.inr ⟨_, _, _, rfl, by rw [hs0, hed, hm, Option.map_some, if_pos (Or.inl (hhk.trans h7))], (hv9.mono (fun q hq => (pm2 _ _ _).mem_iff.mpr hq)).up (by omega)⟩, ⟨by rw [ht]; exact hP9, va_K.moved hW.alike hK9, hD9⟩⟩, hS.F ht⟩) hS.2.2 d_PA_edited_95
          · have h7 : ¬ kk = 5 := fun h => h7 ((hhd.kind.2.1).mpr h)
            refine lv_iload hx hb d_PA_edited_68 (lv_at hl 0 rfl) ?_
            refine lv_aload_n hx hb d_PA_edited_70 rfl (lv_at hl 2 rfl) ?_
            obtain ⟨qz14, hz14⟩ := List.getElem?_of_mem (List.mem_append_right [] hc)
            refine va_get (D := (dC, dI)) (ci := 3) (v := .ref pa) (C := R_VA) (T := T_VA) (N := 7) hx hb htb in_VA hown hK hP qz14 hz14 rfl 4 (by decide) (htb _ m_397) (fun _ h9 => h9) rfl d_PA_edited_71 ?_
            have hPc : va_P (dC, dI) vwCl ([] ++ fz) _ := zz_tlP (pre := []) (tl := fz) hP
            have hKc := hK.sub (tys' := []) [] rfl
            refine vp_callSi (W.runV (As := []) (rest := [.int (nI t0)]) ⟨hx, hb, hml, hown, htb⟩ (z_AL_size l dC dI pa xs cO em fz hal) (cwV 0 htb (g_V (fun _ h => h) m_486 m_773 m_484 m_485 m_8) rfl rfl rfl (by decide +kernel) ⟨(by show 1 ≤ (20 + 2 * ss.length); omega), (by show 20 ≤ (500 + 80 * ss.length); omega)⟩) ⟨fun a U g mk q => by obtain ⟨q0, qP, qK⟩ := q; exact ⟨q0, qP, va_K.moved (u := U) (U := U.calling g mk a) (Vm.Alike.refl U.vm) qK⟩, (hal).recv hK hP (fun q hq => List.mem_append_right _ hq), fun U hU hW => ⟨rfl, by rw [hU]; exact hPc, va_K.moved hW.alike hKc⟩⟩ rfl rfl hl.1 rfl (lv_room (Nat.le_of_ble_eq_true rfl)) d_PA_edited_74 ⟨(by show 0 ≤ (7 * ss.length); omega), (by show 0 ≤ (97 * ss.length); omega)⟩) (fun r15 hw16 => ?_)
            have hw16 : r15 = nI xs.length := hw16
            obtain rfl := hw16
            refine lv_icmp_ne (tgt := 96) hx hb d_PA_edited_77 rfl (fun h8 => ?_) (fun h8 => ?_)
            · have h8 : ¬ t0 = xs.length := fun h => h8 (by rw [h])
              have ht0 : t0 < xs.length := by omega
              refine lv_iload_n hx hb d_PA_edited_96 rfl (lv_at hl 4 rfl) ?_
              refine lv_iconst (v := 2) hx hb d_PA_edited_97 (by decide) ?_
              refine lv_icmp_ne (tgt := 117) hx hb d_PA_edited_98 rfl (fun _ => ?_) (fun h9 => absurd h9 (by rw [hkA]; decide))
              have hvt := hvl t0 ht0
              obtain ⟨kd0, tx0, nu0, nm0, pa0, dp0, cn0, hc0, hn0⟩ := hvt.cellN
              refine lv_aload_n hx hb d_PA_edited_117 rfl (lv_at hl 2 rfl) ?_
              obtain ⟨qz17, hz17⟩ := List.getElem?_of_mem (List.mem_append_right [] hc)
              refine va_get (D := (dC, dI)) (ci := 3) (v := .ref pa) (C := R_VA) (T := T_VA) (N := 7) hx hb htb in_VA hown hK hP qz17 hz17 rfl 4 (by decide) (htb _ m_397) (fun _ h9 => h9) rfl d_PA_edited_118 ?_
              refine lv_iload hx hb d_PA_edited_121 (lv_at hl 0 rfl) ?_
              have hPc : va_P (dC, dI) vwCl ([] ++ fz) _ := zz_tlP (pre := []) (tl := fz) hP
              have hKc := hK.sub (tys' := [(cO, .object "java/lang/Object")]) [1] rfl
              refine va_csq (W.runV (As := [.int (nI t0)]) (rest := []) ⟨hx, hb, hml, hown, htb⟩ (z_AL_get l dC dI pa xs cO em t0 fz hal ht0) (cwV 1 htb (g_V (fun _ h => h) m_490 m_774 m_488 m_489 m_8) rfl rfl rfl (by decide +kernel) ⟨(by show 3 ≤ (20 + 2 * ss.length); omega), (by show 64 ≤ (500 + 80 * ss.length); omega)⟩) ⟨fun a U g mk q => by obtain ⟨q0, qP, qK⟩ := q; exact ⟨q0, qP, va_K.moved (u := U) (U := U.calling g mk a) (Vm.Alike.refl U.vm) qK⟩, (hal).recv hK hP (fun q hq => List.mem_append_right _ hq), fun U hU hW => ⟨rfl, by rw [hU]; exact hPc, va_K.moved hW.alike hKc⟩⟩ rfl rfl hl.1 rfl (lv_room (Nat.le_of_ble_eq_true rfl)) d_PA_edited_123 ⟨(by show 0 ≤ (7 * ss.length); omega), (by show 0 ≤ (97 * ss.length); omega)⟩) (fun r18 hw19 => ?_)
              have hw19 : r18 = some (xs.getD t0 0) := hw19
              obtain rfl := hw19
              refine W.eq (g2 := F0 m 126 ls [.ref (xs.getD t0 0)]) rfl ?_
              refine va_castY (C := "PatchStore$Value") hx hb hown (htb _ m_829) (nw_14 hE) (zz_recv hK hP (ci := 3) rfl (List.mem_append_right _ hc0)) d_PA_edited_126 ?_
              refine lv_astore hx hb d_PA_edited_129 hl (by decide) rfl (fun ls hl => ?_)
              have hl : lv_has ls 8 [(6, .ref (xs.getD t0 0)), (5, .int (nI t0)), (4, .int 1), (0, .ref a), (1, .ref p1), (2, .int (nI kdN)), (3, .ref yv)] := hl
              refine lv_aload hx hb d_PA_edited_131 (lv_at hl 0 rfl) ?_
              refine lv_aload_n hx hb d_PA_edited_133 rfl (lv_at hl 4 rfl) ?_
              obtain ⟨qz20, hz20⟩ := List.getElem?_of_mem (List.mem_append_right [] hpc)
              refine va_get (D := (dC, dI)) (ci := 5) (v := .ref b) (C := R_PT) (T := T_PT) (N := 3) hx hb htb in_PT hown hK hP qz20 hz20 rfl 2 (by decide) (htb _ m_631) (fun _ h9 => h9) rfl d_PA_edited_134 ?_
              refine lv_iload_n hx hb d_PA_edited_137 rfl (lv_at hl 5 rfl) ?_
              refine lv_aload_n hx hb d_PA_edited_138 rfl (lv_at hl 6 rfl) ?_
              have hPc := zz_pickP (pre := []) (fz := fz) (wc := []) hP [] rfl
              have hDc := zz_pickD (pre := []) (fz := fz) (wc := []) hD [] (by decide) rfl
              have hFc := zz_free (pre := []) (fz := fz) (wc := []) hD hS hA [] rfl
              have hKc := hK.sub (tys' := [(cB, .byte), (cO, .object "java/lang/Object")]) [0, 1] rfl
              refine va_callq (va_runS (As := [.ref (xs.getD t0 0), .ref b, .int (nI kdN), .ref yv]) (rest := []) ⟨hx, hb, hml, hown, htb⟩ ((HR s1 ss1 hs0) l dC dI _ (xs.getD t0 0) d1 (ns.getD t0 []) ((ksR rows).getD t0 []) b kdN yv dv nv vr cB cO em aK aV fz hvt hrest (by have := ks_len hwr (t := t0) (by omega); omega) (by omega) hkd hvv) (va_cwS 4 htb (g_S (fun _ h => h) m_806 m_804 m_805 m_23) rfl rfl rfl (by decide +kernel) ⟨(by show ((20 + 2 * ss1.length) + 1) ≤ (20 + 2 * ss.length); omega), (by show (27 + (500 + 80 * ss1.length)) ≤ (500 + 80 * ss.length); omega)⟩) ⟨fun a U g mk q => by obtain ⟨q0, q1, qP, qK, qD, z0⟩ := q; exact ⟨q0, q1, qP, va_K.moved (u := U) (U := U.calling g mk a) (Vm.Alike.refl U.vm) qK, qD, EX.same (U := U) (U' := U.calling g mk a) rfl z0⟩, fun U hU hW => ⟨rfl, by rw [hU], by rw [hU]; exact hPc, va_K.moved hW.alike hKc, hDc.weaken (fun _ _ _ _ => trivial), by rw [hU]; exact EX.warm hW ((hE.kept (fun a h1 h2 => hS.2.1 a h1 h2)).narrow hFc)⟩⟩ rfl rfl hl.1 rfl (lv_room (Nat.le_of_ble_eq_true rfl)) d_PA_edited_139 ⟨(by show (0 + (7 * ss1.length)) ≤ (7 * ss.length); omega), (by show (0 + (97 * ss1.length)) ≤ (97 * ss.length); omega)⟩) hS (fun q _ h => hFc q h) hFc (fun r22 u21 t H1 locs ht hvm hw23 hB hz1 hk1 hS => ?_)
              obtain ⟨hP1, hK1, hD1⟩ := hB
              rw [ht] at hP1
              have hK1 := va_K.moved hvm.symm hK1
              have hw23 : (r22 = none ∧ edt kdN vr ss1 ((ksR rows).getD t0 []) = none) ∨ ∃ y8 n8 w8, r22 = some y8 ∧ edt kdN vr ss1 ((ksR rows).getD t0 []) = some w8 ∧ VT cB cO em aK (d1 + dv) (u21 ++ fz) y8 n8 w8 := hw23
              obtain ⟨hP, hD⟩ := zz_join (pre := []) (fz := fz) (wc := []) (wr := []) (w1 := ([] ++ (u21 ++ fz))) hP hD [] [] rfl rfl (by decide) (by decide) hk1 hFc hP1 hD1
              have hK := (hK.sub (tys' := []) [] rfl).app hK1
              generalize H1 = H at hP hS ⊢
              have hP : va_P (dC, dI) vwCl ([] ++ (u21 ++ fz)) H := hP
              have hD : va_D A ([] ++ (u21 ++ fz)) := hD
              have hK : va_K (dC, dI) vwCl [(cB, .byte), (cO, .object "java/lang/Object")] s := hK
              obtain ⟨rfl, he7⟩ | ⟨y7, n7, w7, rfl, he7, hv7⟩ := hw23
              · refine W.eq (g2 := F0 m 142 ls [.null]) rfl ?_
                refine lv_astoreN hx hb d_PA_edited_142 hl (by decide) rfl (fun ls hl => ?_)
                have hl : lv_has ls 8 [(7, .null), (6, .ref (xs.getD t0 0)), (5, .int (nI t0)), (4, .int 1), (0, .ref a), (1, .ref p1), (2, .int (nI kdN)), (3, .ref yv)] := hl
                refine lv_aloadN hx hb d_PA_edited_144 (lv_at hl 0 rfl) ?_
                refine lv_ifnonnullN hx hb d_PA_edited_146 ?_
                refine lv_null hx hb d_PA_edited_149 ?_
                refine lv_goto (tgt := 170) hx hb d_PA_edited_150 rfl ?_
                have hP9 := zz_pickP (pre := []) (fz := (u21 ++ fz)) (wc := []) hP [] rfl
                have hD9 := zz_pickD (pre := []) (fz := (u21 ++ fz)) (wc := []) hD [] (by decide) rfl
                have hK9 := hK.sub (tys' := [(cB, .byte), (cO, .object "java/lang/Object")]) [0, 1] rfl
                rw [hQ]
                refine W.widen (k := (7 * ss.length)) (n := (97 * ss.length)) ((by show (0 + (7 * ss1.length)) ≤ (7 * ss.length); omega)) ((by show (0 + (97 * ss1.length)) ≤ (97 * ss.length); omega)) ?_
                exact W.aret (v := .null) hx hb hr (Or.inl ⟨_, rfl⟩) (Or.inl rfl) (fun t ht hW => ⟨⟨none, u21, rfl, Or.inl ⟨rfl, by rw [hss, edt, if_neg (by rw [hkA]; decide)] at he7; cases he7⟩, ⟨by rw [ht]; exact hP9, va_K.moved hW.alike hK9, hD9⟩⟩, hS.F ht⟩) hS.2.2 d_PA_edited_170
              · refine W.eq (g2 := F0 m 142 ls [.ref y7]) rfl ?_
                have hg7 : ∀ q ∈ fz, q ∈ (u21 ++ fz) := fun q hq => List.mem_append_right _ hq
                refine lv_astore hx hb d_PA_edited_142 hl (by decide) rfl (fun ls hl => ?_)
                have hl : lv_has ls 8 [(7, .ref y7), (6, .ref (xs.getD t0 0)), (5, .int (nI t0)), (4, .int 1), (0, .ref a), (1, .ref p1), (2, .int (nI kdN)), (3, .ref yv)] := hl
                refine lv_aload hx hb d_PA_edited_144 (lv_at hl 0 rfl) ?_
                refine lv_ifnonnull (tgt := 153) hx hb d_PA_edited_146 rfl ?_
                refine lv_aload_n hx hb d_PA_edited_153 rfl (lv_at hl 4 rfl) ?_
                refine lv_iload hx hb d_PA_edited_154 (lv_at hl 2 rfl) ?_
                refine lv_iconst (v := 1) hx hb d_PA_edited_156 (by decide) ?_
                refine lv_aload hx hb d_PA_edited_157 (lv_at hl 0 rfl) ?_
                refine lv_aload hx hb d_PA_edited_159 (lv_at hl 1 rfl) ?_
                obtain ⟨qz25, hz25⟩ := List.getElem?_of_mem (List.mem_append_right [] (hg7 _ hc0))
                refine va_get (D := (dC, dI)) (ci := 3) (v := .ref nm0) (C := R_VA) (T := T_VA) (N := 7) hx hb htb in_VA hown hK hP qz25 hz25 rfl 3 (by decide) (htb _ m_392) (fun _ h9 => h9) rfl d_PA_edited_161 ?_
                obtain ⟨kd7, tx7, nu7, nm7, pa7, dp7, cn7, hc7, hren⟩ := (hv7).renamed
                have hPc := zz_pickP (pre := []) (fz := (u21 ++ fz)) (wc := []) hP [] rfl
                have hDc := zz_pickD (pre := []) (fz := (u21 ++ fz)) (wc := []) hD [] (by decide) rfl
                have hFc := zz_free (pre := []) (fz := (u21 ++ fz)) (wc := []) hD hS hA [] rfl
                have hKc := hK.sub (tys' := []) [] rfl
                refine va_callr (va_runV (As := [.ref nm0]) (rest := [.int 1, .int (nI t0), .ref a]) ⟨hx, hb, hml, hown, htb⟩ (k_VA_named l dC dI _ y7 kd7 tx7 nu7 nm7 pa7 dp7 cn7 nm0 (u21 ++ fz) hc7) (cwV 1 htb (g_V (fun _ h => h) m_518 m_822 m_516 m_517 m_18) rfl rfl rfl (by decide +kernel) ⟨(by show 3 ≤ (20 + 2 * ss.length); omega), (by show 55 ≤ (500 + 80 * ss.length); omega)⟩) ⟨fun a U g mk q => by obtain ⟨q0, q1, qP, qK, qD⟩ := q; exact ⟨q0, q1, qP, va_K.moved (u := U) (U := U.calling g mk a) (Vm.Alike.refl U.vm) qK, qD⟩, zz_recv hK hP (ci := 3) rfl (List.mem_append_right _ hc7), fun U hU hW => ⟨rfl, by rw [hU], by rw [hU]; exact hPc, va_K.moved hW.alike hKc, hDc.weaken (fun _ _ _ _ => trivial)⟩⟩ rfl rfl hl.1 rfl (lv_room (Nat.le_of_ble_eq_true rfl)) d_PA_edited_164 ⟨(by show ((0 + (7 * ss1.length)) + 1) ≤ (7 * ss.length); omega), (by show ((0 + (97 * ss1.length)) + 7) ≤ (97 * ss.length); omega)⟩) hS (fun q _ h => hFc q h) hFc (fun u26 ra29 t H1 locs ht hvm hw28 hB hz1 hk1 hS => ?_)
                obtain ⟨hP1, hK1, hD1⟩ := hB
                rw [ht] at hP1
                have hK1 := va_K.moved hvm.symm hK1
                have hw28 : True := hw28
                obtain ⟨hP, hD⟩ := zz_join (pre := []) (fz := (u21 ++ fz)) (wc := []) (wr := []) (w1 := ([(ra29, .inr (3, [.int kd7, .ref tx7, .long nu7, .ref nm0, .ref pa7, .int dp7, .int cn7]))] ++ (u21 ++ fz))) hP hD [] [] rfl rfl (by decide) (by decide) hk1 hFc hP1 hD1
                have hK := (hK.sub (tys' := [(cB, .byte), (cO, .object "java/lang/Object")]) [0, 1] rfl).app hK1
                generalize H1 = H at hP hS ⊢
                have hP : va_P (dC, dI) vwCl ([(ra29, .inr (3, [.int kd7, .ref tx7, .long nu7, .ref nm0, .ref pa7, .int dp7, .int cn7]))] ++ (u21 ++ fz)) H := hP
                have hD : va_D A ([(ra29, .inr (3, [.int kd7, .ref tx7, .long nu7, .ref nm0, .ref pa7, .int dp7, .int cn7]))] ++ (u21 ++ fz)) := hD
                have hK : va_K (dC, dI) vwCl [(cB, .byte), (cO, .object "java/lang/Object")] s := hK
                have hP := zz_pickP (pre := [(ra29, .inr (3, [.int kd7, .ref tx7, .long nu7, .ref nm0, .ref pa7, .int dp7, .int cn7]))]) (fz := (u21 ++ fz)) (wc := [(ra29, .inr (3, [.int kd7, .ref tx7, .long nu7, .ref nm0, .ref pa7, .int dp7, .int cn7]))]) hP [0] rfl
                have hD := zz_pickD (pre := [(ra29, .inr (3, [.int kd7, .ref tx7, .long nu7, .ref nm0, .ref pa7, .int dp7, .int cn7]))]) (fz := (u21 ++ fz)) (wc := [(ra29, .inr (3, [.int kd7, .ref tx7, .long nu7, .ref nm0, .ref pa7, .int dp7, .int cn7]))]) hD [0] (by decide) rfl
                have hP : va_P (dC, dI) vwCl ([] ++ ([(ra29, .inr (3, [.int kd7, .ref tx7, .long nu7, .ref nm0, .ref pa7, .int dp7, .int cn7]))] ++ (u21 ++ fz))) _ := hP
                have hD : va_D A ([] ++ ([(ra29, .inr (3, [.int kd7, .ref tx7, .long nu7, .ref nm0, .ref pa7, .int dp7, .int cn7]))] ++ (u21 ++ fz))) := hD
                have hgr0 : ∀ q ∈ (u21 ++ fz), q ∈ ([(ra29, .inr (3, [.int kd7, .ref tx7, .long nu7, .ref nm0, .ref pa7, .int dp7, .int cn7]))] ++ (u21 ++ fz)) := fun q hq => List.mem_append_right _ hq
                have hvn := hren ([(ra29, .inr (3, [.int kd7, .ref tx7, .long nu7, .ref nm0, .ref pa7, .int dp7, .int cn7]))] ++ (u21 ++ fz)) ra29 nm0 (ns.getD t0 []) hgr0 (List.mem_append_left _ List.mem_cons_self) (((hn0.mono hg7)).mono hgr0)
                have hgr : ∀ q ∈ fz, q ∈ ([(ra29, .inr (3, [.int kd7, .ref tx7, .long nu7, .ref nm0, .ref pa7, .int dp7, .int cn7]))] ++ (u21 ++ fz)) := fun q hq => hgr0 q (hg7 q hq)
                have hPc := zz_pickP (pre := []) (fz := ([(ra29, .inr (3, [.int kd7, .ref tx7, .long nu7, .ref nm0, .ref pa7, .int dp7, .int cn7]))] ++ (u21 ++ fz))) (wc := []) hP [] rfl
                have hDc := zz_pickD (pre := []) (fz := ([(ra29, .inr (3, [.int kd7, .ref tx7, .long nu7, .ref nm0, .ref pa7, .int dp7, .int cn7]))] ++ (u21 ++ fz))) (wc := []) hD [] (by decide) rfl
                have hFc := zz_free (pre := []) (fz := ([(ra29, .inr (3, [.int kd7, .ref tx7, .long nu7, .ref nm0, .ref pa7, .int dp7, .int cn7]))] ++ (u21 ++ fz))) (wc := []) hD hS hA [] rfl
                have hKc := hK.sub (tys' := [(cB, .byte), (cO, .object "java/lang/Object")]) [0, 1] rfl
                refine va_callq (va_runV (As := [.int (nI t0), .int (nI 1), .ref ra29]) (rest := []) ⟨hx, hb, hml, hown, htb⟩ (k_VA_spliced1 l dC dI _ a (d1 + dv) nn rows t0 1 ra29 (ns.getD t0 []) w7 cB cO em aK aV ([(ra29, .inr (3, [.int kd7, .ref tx7, .long nu7, .ref nm0, .ref pa7, .int dp7, .int cn7]))] ++ (u21 ++ fz)) ((hv.mono (fun q hq => hgr q hq)).up (by omega)) hk56 (by omega) (by omega) (by omega) hvn) (cwV 3 htb (g_V (fun _ h => h) m_826 m_823 m_824 m_825 m_18) rfl rfl rfl (by decide +kernel) ⟨(by show 8 ≤ (20 + 2 * ss.length); omega), (by show 196 ≤ (500 + 80 * ss.length); omega)⟩) ⟨fun a U g mk q => by obtain ⟨q0, q1, qP, qK, qD, z0⟩ := q; exact ⟨q0, q1, qP, va_K.moved (u := U) (U := U.calling g mk a) (Vm.Alike.refl U.vm) qK, qD, EX.same (U := U) (U' := U.calling g mk a) rfl z0⟩, zz_recv hK hP (ci := 3) rfl (List.mem_append_right _ (hgr _ hc)), fun U hU hW => ⟨rfl, by rw [hU], by rw [hU]; exact hPc, va_K.moved hW.alike hKc, hDc.weaken (fun _ _ _ _ => trivial), by rw [hU]; exact EX.warm hW ((hE.kept (fun a h1 h2 => hS.2.1 a h1 h2)).narrow hFc)⟩⟩ rfl rfl hl.1 rfl (lv_room (Nat.le_of_ble_eq_true rfl)) d_PA_edited_167 ⟨(by show (((0 + (7 * ss1.length)) + 1) + 6) ≤ (7 * ss.length); omega), (by show (((0 + (97 * ss1.length)) + 7) + 90) ≤ (97 * ss.length); omega)⟩) hS (fun q _ h => hFc q h) hFc (fun r31 u30 t H1 locs ht hvm hw32 hB hz1 hk1 hS => ?_)
                obtain ⟨hP1, hK1, hD1⟩ := hB
                rw [ht] at hP1
                have hK1 := va_K.moved hvm.symm hK1
                have hw32 : ∃ y8, r31 = some y8 ∧ VT cB cO em aK ((d1 + dv) + 1) (u30 ++ ([(ra29, .inr (3, [.int kd7, .ref tx7, .long nu7, .ref nm0, .ref pa7, .int dp7, .int cn7]))] ++ (u21 ++ fz))) y8 nn (spc rows t0 1 [((ns.getD t0 []), w7)]) := hw32
                obtain ⟨hP, hD⟩ := zz_join (pre := []) (fz := ([(ra29, .inr (3, [.int kd7, .ref tx7, .long nu7, .ref nm0, .ref pa7, .int dp7, .int cn7]))] ++ (u21 ++ fz))) (wc := []) (wr := []) (w1 := ([] ++ (u30 ++ ([(ra29, .inr (3, [.int kd7, .ref tx7, .long nu7, .ref nm0, .ref pa7, .int dp7, .int cn7]))] ++ (u21 ++ fz))))) hP hD [] [] rfl rfl (by decide) (by decide) hk1 hFc hP1 hD1
                have hK := (hK.sub (tys' := []) [] rfl).app hK1
                generalize H1 = H at hP hS ⊢
                have hP : va_P (dC, dI) vwCl ([] ++ (u30 ++ ([(ra29, .inr (3, [.int kd7, .ref tx7, .long nu7, .ref nm0, .ref pa7, .int dp7, .int cn7]))] ++ (u21 ++ fz)))) H := hP
                have hD : va_D A ([] ++ (u30 ++ ([(ra29, .inr (3, [.int kd7, .ref tx7, .long nu7, .ref nm0, .ref pa7, .int dp7, .int cn7]))] ++ (u21 ++ fz)))) := hD
                have hK : va_K (dC, dI) vwCl [(cB, .byte), (cO, .object "java/lang/Object")] s := hK
                obtain ⟨y9, hy9, hv9⟩ := hw32
                subst hy9
                refine W.eq (g2 := F0 m 170 ls [.ref y9]) rfl ?_
                have hP := zz_permP (pre := []) (t1 := (u30 ++ ([(ra29, .inr (3, [.int kd7, .ref tx7, .long nu7, .ref nm0, .ref pa7, .int dp7, .int cn7]))] ++ (u21 ++ fz)))) (t2 := ((u30 ++ ([(ra29, .inr (3, [.int kd7, .ref tx7, .long nu7, .ref nm0, .ref pa7, .int dp7, .int cn7]))] ++ u21)) ++ fz)) hP (pm3 _ _ _ _)
                have hD := zz_permD (pre := []) (t1 := (u30 ++ ([(ra29, .inr (3, [.int kd7, .ref tx7, .long nu7, .ref nm0, .ref pa7, .int dp7, .int cn7]))] ++ (u21 ++ fz)))) (t2 := ((u30 ++ ([(ra29, .inr (3, [.int kd7, .ref tx7, .long nu7, .ref nm0, .ref pa7, .int dp7, .int cn7]))] ++ u21)) ++ fz)) hD (pm3 _ _ _ _)
                have hP9 := zz_pickP (pre := []) (fz := ((u30 ++ ([(ra29, .inr (3, [.int kd7, .ref tx7, .long nu7, .ref nm0, .ref pa7, .int dp7, .int cn7]))] ++ u21)) ++ fz)) (wc := []) hP [] rfl
                have hD9 := zz_pickD (pre := []) (fz := ((u30 ++ ([(ra29, .inr (3, [.int kd7, .ref tx7, .long nu7, .ref nm0, .ref pa7, .int dp7, .int cn7]))] ++ u21)) ++ fz)) (wc := []) hD [] (by decide) rfl
                have hK9 := hK.sub (tys' := [(cB, .byte), (cO, .object "java/lang/Object")]) [0, 1] rfl
                rw [hQ]
                refine W.widen (k := (7 * ss.length)) (n := (97 * ss.length)) ((by show (((0 + (7 * ss1.length)) + 1) + 6) ≤ (7 * ss.length); omega)) ((by show (((0 + (97 * ss1.length)) + 7) + 90) ≤ (97 * ss.length); omega)) ?_
                exact W.aret (v := .ref y9) hx hb hr (Or.inl ⟨_, rfl⟩) (Or.inr ⟨_, rfl⟩) (fun t ht hW => ⟨⟨(some y9), (u30 ++ ([(ra29, .inr (3, [.int kd7, .ref tx7, .long nu7, .ref nm0, .ref pa7, .int dp7, .int cn7]))] ++ u21)), rfl, Or.inr ⟨_, _, _, rfl, by rw [hss, edt, if_neg (by rw [hkA]; decide)] at he7; cases he7; rw [hs0, hed, hm, Option.map_some, if_neg (fun h => h.elim (fun h => h7 (hhk.symm.trans h)) (fun h => h8 (by omega)))]; exact congrArg some (spc_nm (fun h => by rw [hns (hhk.symm.trans h)])).symm, (hv9.mono (fun q hq => (pm3 _ _ _ _).mem_iff.mpr hq)).up (by omega)⟩, ⟨by rw [ht]; exact hP9, va_K.moved hW.alike hK9, hD9⟩⟩, hS.F ht⟩) hS.2.2 d_PA_edited_170
            · have h8 : t0 = xs.length := (nI_eq (by omega) (by omega)).mp h8
              refine lv_aload_n hx hb d_PA_edited_80 rfl (lv_at hl 2 rfl) ?_
              refine lv_iload hx hb d_PA_edited_81 (lv_at hl 0 rfl) ?_
              refine lv_iconst (v := 0) hx hb d_PA_edited_83 (by decide) ?_
              refine lv_aload_n hx hb d_PA_edited_84 rfl (lv_at hl 5 rfl) ?_
              refine lv_aload_n hx hb d_PA_edited_85 rfl (lv_at hl 3 rfl) ?_
              obtain ⟨qz17, hz17⟩ := List.getElem?_of_mem (List.mem_append_right [] hpc)
              refine va_get (D := (dC, dI)) (ci := 5) (v := .ref st) (C := R_PT) (T := T_PT) (N := 3) hx hb htb in_PT hown hK hP qz17 hz17 rfl 0 (by decide) (htb _ m_627) (fun _ h9 => h9) rfl d_PA_edited_86 ?_
              obtain ⟨kd7, tx7, nu7, nm7, pa7, dp7, cn7, hc7, hren⟩ := (hvv).renamed
              have hPc := zz_pickP (pre := []) (fz := fz) (wc := []) hP [] rfl
              have hDc := zz_pickD (pre := []) (fz := fz) (wc := []) hD [] (by decide) rfl
              have hFc := zz_free (pre := []) (fz := fz) (wc := []) hD hS hA [] rfl
              have hKc := hK.sub (tys' := []) [] rfl
              refine va_callr (va_runV (As := [.ref st]) (rest := [.int 0, .int (nI t0), .ref a]) ⟨hx, hb, hml, hown, htb⟩ (k_VA_named l dC dI _ yv kd7 tx7 nu7 nm7 pa7 dp7 cn7 st fz hc7) (cwV 1 htb (g_V (fun _ h => h) m_518 m_822 m_516 m_517 m_18) rfl rfl rfl (by decide +kernel) ⟨(by show 3 ≤ (20 + 2 * ss.length); omega), (by show 55 ≤ (500 + 80 * ss.length); omega)⟩) ⟨fun a U g mk q => by obtain ⟨q0, q1, qP, qK, qD⟩ := q; exact ⟨q0, q1, qP, va_K.moved (u := U) (U := U.calling g mk a) (Vm.Alike.refl U.vm) qK, qD⟩, zz_recv hK hP (ci := 3) rfl (List.mem_append_right _ hc7), fun U hU hW => ⟨rfl, by rw [hU], by rw [hU]; exact hPc, va_K.moved hW.alike hKc, hDc.weaken (fun _ _ _ _ => trivial)⟩⟩ rfl rfl hl.1 rfl (lv_room (Nat.le_of_ble_eq_true rfl)) d_PA_edited_89 ⟨(by show 1 ≤ (7 * ss.length); omega), (by show 7 ≤ (97 * ss.length); omega)⟩) hS (fun q _ h => hFc q h) hFc (fun u18 ra21 t H1 locs ht hvm hw20 hB hz1 hk1 hS => ?_)
              obtain ⟨hP1, hK1, hD1⟩ := hB
              rw [ht] at hP1
              have hK1 := va_K.moved hvm.symm hK1
              have hw20 : True := hw20
              obtain ⟨hP, hD⟩ := zz_join (pre := []) (fz := fz) (wc := []) (wr := []) (w1 := ([(ra21, .inr (3, [.int kd7, .ref tx7, .long nu7, .ref st, .ref pa7, .int dp7, .int cn7]))] ++ fz)) hP hD [] [] rfl rfl (by decide) (by decide) hk1 hFc hP1 hD1
              have hK := (hK.sub (tys' := [(cB, .byte), (cO, .object "java/lang/Object")]) [0, 1] rfl).app hK1
              generalize H1 = H at hP hS ⊢
              have hP : va_P (dC, dI) vwCl ([(ra21, .inr (3, [.int kd7, .ref tx7, .long nu7, .ref st, .ref pa7, .int dp7, .int cn7]))] ++ fz) H := hP
              have hD : va_D A ([(ra21, .inr (3, [.int kd7, .ref tx7, .long nu7, .ref st, .ref pa7, .int dp7, .int cn7]))] ++ fz) := hD
              have hK : va_K (dC, dI) vwCl [(cB, .byte), (cO, .object "java/lang/Object")] s := hK
              refine W.widen (k := 1) (n := 7) (Nat.le_of_ble_eq_true rfl) (Nat.le_of_ble_eq_true rfl) ?_
              have hP := zz_pickP (pre := [(ra21, .inr (3, [.int kd7, .ref tx7, .long nu7, .ref st, .ref pa7, .int dp7, .int cn7]))]) (fz := fz) (wc := [(ra21, .inr (3, [.int kd7, .ref tx7, .long nu7, .ref st, .ref pa7, .int dp7, .int cn7]))]) hP [0] rfl
              have hD := zz_pickD (pre := [(ra21, .inr (3, [.int kd7, .ref tx7, .long nu7, .ref st, .ref pa7, .int dp7, .int cn7]))]) (fz := fz) (wc := [(ra21, .inr (3, [.int kd7, .ref tx7, .long nu7, .ref st, .ref pa7, .int dp7, .int cn7]))]) hD [0] (by decide) rfl
              have hP : va_P (dC, dI) vwCl ([] ++ ([(ra21, .inr (3, [.int kd7, .ref tx7, .long nu7, .ref st, .ref pa7, .int dp7, .int cn7]))] ++ fz)) _ := hP
              have hD : va_D A ([] ++ ([(ra21, .inr (3, [.int kd7, .ref tx7, .long nu7, .ref st, .ref pa7, .int dp7, .int cn7]))] ++ fz)) := hD
              have hgr0 : ∀ q ∈ fz, q ∈ ([(ra21, .inr (3, [.int kd7, .ref tx7, .long nu7, .ref st, .ref pa7, .int dp7, .int cn7]))] ++ fz) := fun q hq => List.mem_append_right _ hq
              have hvn := hren ([(ra21, .inr (3, [.int kd7, .ref tx7, .long nu7, .ref st, .ref pa7, .int dp7, .int cn7]))] ++ fz) ra21 st (s1) hgr0 (List.mem_append_left _ List.mem_cons_self) ((hst).mono hgr0)
              have hgr : ∀ q ∈ fz, q ∈ ([(ra21, .inr (3, [.int kd7, .ref tx7, .long nu7, .ref st, .ref pa7, .int dp7, .int cn7]))] ++ fz) := hgr0
              have hPc := zz_pickP (pre := []) (fz := ([(ra21, .inr (3, [.int kd7, .ref tx7, .long nu7, .ref st, .ref pa7, .int dp7, .int cn7]))] ++ fz)) (wc := []) hP [] rfl
              have hDc := zz_pickD (pre := []) (fz := ([(ra21, .inr (3, [.int kd7, .ref tx7, .long nu7, .ref st, .ref pa7, .int dp7, .int cn7]))] ++ fz)) (wc := []) hD [] (by decide) rfl
              have hFc := zz_free (pre := []) (fz := ([(ra21, .inr (3, [.int kd7, .ref tx7, .long nu7, .ref st, .ref pa7, .int dp7, .int cn7]))] ++ fz)) (wc := []) hD hS hA [] rfl
              have hKc := hK.sub (tys' := [(cB, .byte), (cO, .object "java/lang/Object")]) [0, 1] rfl
              refine va_callq (va_runV (As := [.int (nI t0), .int (nI 0), .ref ra21]) (rest := []) ⟨hx, hb, hml, hown, htb⟩ (k_VA_spliced1 l dC dI _ a (d1 + dv) nn rows t0 0 ra21 s1 vr cB cO em aK aV ([(ra21, .inr (3, [.int kd7, .ref tx7, .long nu7, .ref st, .ref pa7, .int dp7, .int cn7]))] ++ fz) ((hv.mono (fun q hq => hgr q hq)).up (by omega)) hk56 (by omega) (by omega) (by omega) (hvn.up (by omega))) (cwV 3 htb (g_V (fun _ h => h) m_826 m_823 m_824 m_825 m_18) rfl rfl rfl (by decide +kernel) ⟨(by show 8 ≤ (20 + 2 * ss.length); omega), (by show 196 ≤ (500 + 80 * ss.length); omega)⟩) ⟨fun a U g mk q => by obtain ⟨q0, q1, qP, qK, qD, z0⟩ := q; exact ⟨q0, q1, qP, va_K.moved (u := U) (U := U.calling g mk a) (Vm.Alike.refl U.vm) qK, qD, EX.same (U := U) (U' := U.calling g mk a) rfl z0⟩, zz_recv hK hP (ci := 3) rfl (List.mem_append_right _ (hgr _ hc)), fun U hU hW => ⟨rfl, by rw [hU], by rw [hU]; exact hPc, va_K.moved hW.alike hKc, hDc.weaken (fun _ _ _ _ => trivial), by rw [hU]; exact EX.warm hW ((hE.kept (fun a h1 h2 => hS.2.1 a h1 h2)).narrow hFc)⟩⟩ rfl rfl hl.1 rfl (lv_room (Nat.le_of_ble_eq_true rfl)) d_PA_edited_92 ⟨(by show (1 + 6) ≤ (7 * ss.length); omega), (by show (7 + 90) ≤ (97 * ss.length); omega)⟩) hS (fun q _ h => hFc q h) hFc (fun r23 u22 t H1 locs ht hvm hw24 hB hz1 hk1 hS => ?_)
              obtain ⟨hP1, hK1, hD1⟩ := hB
              rw [ht] at hP1
              have hK1 := va_K.moved hvm.symm hK1
              have hw24 : ∃ y8, r23 = some y8 ∧ VT cB cO em aK ((d1 + dv) + 1) (u22 ++ ([(ra21, .inr (3, [.int kd7, .ref tx7, .long nu7, .ref st, .ref pa7, .int dp7, .int cn7]))] ++ fz)) y8 nn (spc rows t0 0 [(s1, vr)]) := hw24
              obtain ⟨hP, hD⟩ := zz_join (pre := []) (fz := ([(ra21, .inr (3, [.int kd7, .ref tx7, .long nu7, .ref st, .ref pa7, .int dp7, .int cn7]))] ++ fz)) (wc := []) (wr := []) (w1 := ([] ++ (u22 ++ ([(ra21, .inr (3, [.int kd7, .ref tx7, .long nu7, .ref st, .ref pa7, .int dp7, .int cn7]))] ++ fz)))) hP hD [] [] rfl rfl (by decide) (by decide) hk1 hFc hP1 hD1
              have hK := (hK.sub (tys' := []) [] rfl).app hK1
              generalize H1 = H at hP hS ⊢
              have hP : va_P (dC, dI) vwCl ([] ++ (u22 ++ ([(ra21, .inr (3, [.int kd7, .ref tx7, .long nu7, .ref st, .ref pa7, .int dp7, .int cn7]))] ++ fz))) H := hP
              have hD : va_D A ([] ++ (u22 ++ ([(ra21, .inr (3, [.int kd7, .ref tx7, .long nu7, .ref st, .ref pa7, .int dp7, .int cn7]))] ++ fz))) := hD
              have hK : va_K (dC, dI) vwCl [(cB, .byte), (cO, .object "java/lang/Object")] s := hK
              obtain ⟨y9, hy9, hv9⟩ := hw24
              subst hy9
              refine W.eq (g2 := F0 m 95 ls [.ref y9]) rfl ?_
              have hP := zz_permP (pre := []) (t1 := (u22 ++ ([(ra21, .inr (3, [.int kd7, .ref tx7, .long nu7, .ref st, .ref pa7, .int dp7, .int cn7]))] ++ fz))) (t2 := ((u22 ++ [(ra21, .inr (3, [.int kd7, .ref tx7, .long nu7, .ref st, .ref pa7, .int dp7, .int cn7]))]) ++ fz)) hP (pm2 _ _ _)
              have hD := zz_permD (pre := []) (t1 := (u22 ++ ([(ra21, .inr (3, [.int kd7, .ref tx7, .long nu7, .ref st, .ref pa7, .int dp7, .int cn7]))] ++ fz))) (t2 := ((u22 ++ [(ra21, .inr (3, [.int kd7, .ref tx7, .long nu7, .ref st, .ref pa7, .int dp7, .int cn7]))]) ++ fz)) hD (pm2 _ _ _)
              have hP9 := zz_pickP (pre := []) (fz := ((u22 ++ [(ra21, .inr (3, [.int kd7, .ref tx7, .long nu7, .ref st, .ref pa7, .int dp7, .int cn7]))]) ++ fz)) (wc := []) hP [] rfl
              have hD9 := zz_pickD (pre := []) (fz := ((u22 ++ [(ra21, .inr (3, [.int kd7, .ref tx7, .long nu7, .ref st, .ref pa7, .int dp7, .int cn7]))]) ++ fz)) (wc := []) hD [] (by decide) rfl
              have hK9 := hK.sub (tys' := [(cB, .byte), (cO, .object "java/lang/Object")]) [0, 1] rfl
              rw [hQ]
              refine W.widen (k := (7 * ss.length)) (n := (97 * ss.length)) ((by show (1 + 6) ≤ (7 * ss.length); omega)) ((by show (7 + 90) ≤ (97 * ss.length); omega)) ?_
              exact W.aret (v := .ref y9) hx hb hr (Or.inl ⟨_, rfl⟩) (Or.inr ⟨_, rfl⟩) (fun t ht hW => ⟨⟨(some y9), (u22 ++ [(ra21, .inr (3, [.int kd7, .ref tx7, .long nu7, .ref st, .ref pa7, .int dp7, .int cn7]))]), rfl, Or.inr ⟨_, _, _, rfl, by rw [hs0, hed, hm, Option.map_some, if_pos (Or.inr (by omega))], (hv9.mono (fun q hq => (pm2 _ _ _).mem_iff.mpr hq)).up (by omega)⟩, ⟨by rw [ht]; exact hP9, va_K.moved hW.alike hK9, hD9⟩⟩, hS.F ht⟩) hS.2.2 d_PA_edited_95
      · have hedn : stp rows s1 = none → edt kdN vr (s1 :: ss1) rows = none := fun h => by rw [edt, if_neg hss, h]; rfl
        have heds : ∀ {t0 : Nat} {w7 : List Row}, stp rows s1 = some t0 → edt kdN vr ss1 ((ksR rows).getD t0 []) = some w7 → edt kdN vr (s1 :: ss1) rows = some (spc rows t0 1 [((ksN rows).getD t0 [], w7)]) := fun h h9 => by rw [edt, if_neg hss, h, Option.bind_some, h9]; rfl
        have heds0 : ∀ {t0 : Nat}, stp rows s1 = some t0 → edt kdN vr ss1 ((ksR rows).getD t0 []) = none → edt kdN vr (s1 :: ss1) rows = none := fun h h9 => by rw [edt, if_neg hss, h, Option.bind_some, h9]; rfl
        refine lv_if_eq (tgt := 25) hx hb d_PA_edited_18 rfl (fun _ => ?_) (fun h9 => absurd (by rw [hw7, decide_eq_false (by rw [hlc]; exact fun h => hss (List.length_eq_zero_iff.mp (by omega)))]; rfl) h9)
        refine lv_iconst (v := 0) hx hb d_PA_edited_25 (by decide) ?_
        refine lv_istore hx hb d_PA_edited_26 hl (by decide) rfl (fun ls hl => ?_)
        have hl : lv_has ls 8 [(4, .int 0), (0, .ref a), (1, .ref p1), (2, .int (nI kdN)), (3, .ref yv)] := hl
        refine lv_iload hx hb d_PA_edited_28 (lv_at hl 0 rfl) ?_
        refine lv_if_eq (tgt := 41) hx hb d_PA_edited_30 rfl (fun _ => ?_) (fun h9 => absurd (rfl) h9)
        refine lv_aload_n hx hb d_PA_edited_41 rfl (lv_at hl 2 rfl) ?_
        refine lv_aload_n hx hb d_PA_edited_42 rfl (lv_at hl 1 rfl) ?_
        have hPc := zz_pickP (pre := []) (fz := fz) (wc := []) hP [] rfl
        have hDc := zz_pickD (pre := []) (fz := fz) (wc := []) hD [] (by decide) rfl
        have hFc := zz_free (pre := []) (fz := fz) (wc := []) hD hS hA [] rfl
        have hKc := hK.sub (tys' := [(cB, .byte), (cO, .object "java/lang/Object")]) [0, 1] rfl
        refine va_calli (va_runV (As := [.ref a]) (rest := []) ⟨hx, hb, hml, hown, htb⟩ (k_PT_firstPlaceIn l dC dI _ a d1 nn rows p1 s1 ss1 cB cO em aK aV fz hv hpt1) (cwV 1 htb (g_V (fun _ h => h) m_791 m_821 m_789 m_790 m_21) rfl rfl rfl (by decide +kernel) ⟨(by show 5 ≤ (20 + 2 * ss.length); omega), (by show 107 ≤ (500 + 80 * ss.length); omega)⟩) ⟨fun a U g mk q => by obtain ⟨q0, q1, qP, qK, qD, z0⟩ := q; exact ⟨q0, q1, qP, va_K.moved (u := U) (U := U.calling g mk a) (Vm.Alike.refl U.vm) qK, qD, EX.same (U := U) (U' := U.calling g mk a) rfl z0⟩, zz_recv hK hP (ci := 5) rfl (List.mem_append_right _ hpc), fun U hU hW => ⟨rfl, by rw [hU], by rw [hU]; exact hPc, va_K.moved hW.alike hKc, hDc.weaken (fun _ _ _ _ => trivial), by rw [hU]; exact EX.warm hW ((hE.kept (fun a h1 h2 => hS.2.1 a h1 h2)).narrow hFc)⟩⟩ rfl rfl hl.1 rfl (lv_room (Nat.le_of_ble_eq_true rfl)) d_PA_edited_43 ⟨(by show 0 ≤ (7 * ss.length); omega), (by show 0 ≤ (97 * ss.length); omega)⟩) hS (fun q _ h => hFc q h) hFc (fun r10 u9 t H1 locs ht hvm hw11 hB hz1 hk1 hS => ?_)
        obtain ⟨hP1, hK1, hD1⟩ := hB
        rw [ht] at hP1
        have hK1 := va_K.moved hvm.symm hK1
        have hw11 : r10 = oI (stp rows s1) := hw11
        obtain ⟨hP, hD⟩ := zz_join (pre := []) (fz := fz) (wc := []) (wr := []) (w1 := ([] ++ fz)) hP hD [] [] rfl rfl (by decide) (by decide) hk1 hFc hP1 hD1
        have hK := (hK.sub (tys' := []) [] rfl).app hK1
        generalize H1 = H at hP hS ⊢
        have hP : va_P (dC, dI) vwCl ([] ++ fz) H := hP
        have hD : va_D A ([] ++ fz) := hD
        have hK : va_K (dC, dI) vwCl [(cB, .byte), (cO, .object "java/lang/Object")] s := hK
        obtain rfl := hw11
        refine lv_istore hx hb d_PA_edited_46 hl (by decide) rfl (fun ls hl => ?_)
        have hl : lv_has ls 8 [(5, .int (oI (stp rows s1))), (4, .int 0), (0, .ref a), (1, .ref p1), (2, .int (nI kdN)), (3, .ref yv)] := hl
        refine lv_iload hx hb d_PA_edited_48 (lv_at hl 0 rfl) ?_
        rcases hm : stp rows s1 with _ | t0
        · have hm2 : oI (stp rows s1) = -1 := by rw [hm]; rfl
          refine W.eq (g2 := F0 m 50 ls [.int (-1)]) rfl ?_
          refine lv_if_ge (tgt := 55) hx hb d_PA_edited_50 rfl (fun h9 => absurd h9 (by decide)) (fun _ => ?_)
          refine lv_null hx hb d_PA_edited_53 ?_
          have hP9 := zz_pickP (pre := []) (fz := fz) (wc := []) hP [] rfl
          have hD9 := zz_pickD (pre := []) (fz := fz) (wc := []) hD [] (by decide) rfl
          have hK9 := hK.sub (tys' := [(cB, .byte), (cO, .object "java/lang/Object")]) [0, 1] rfl
          rw [hQ]
          refine W.widen (k := (7 * ss.length)) (n := (97 * ss.length)) ((by show 0 ≤ (7 * ss.length); omega)) ((by show 0 ≤ (97 * ss.length); omega)) ?_
          exact W.aret (v := .null) hx hb hr (Or.inl ⟨_, rfl⟩) (Or.inl rfl) (fun t ht hW => ⟨⟨none, ([] : va_W), rfl, Or.inl ⟨rfl, by rw [hs0]; exact hedn hm⟩, ⟨by rw [ht]; exact hP9, va_K.moved hW.alike hK9, hD9⟩⟩, hS.F ht⟩) hS.2.2 d_PA_edited_54
        · have hm2 : oI (stp rows s1) = nI t0 := by rw [hm]; rfl
          have htl : t0 ≤ xs.length := by have := (stp_lt hm).1; omega
          rw [hm2] at hl
          have hl : lv_has ls 8 [(5, .int (nI t0)), (4, .int 0), (0, .ref a), (1, .ref p1), (2, .int (nI kdN)), (3, .ref yv)] := hl
          refine W.eq (g2 := F0 m 50 ls [.int (nI t0)]) rfl ?_
          refine lv_if_ge (tgt := 55) hx hb d_PA_edited_50 rfl (fun _ => ?_) (fun h9 => absurd (nI_nn t0 (by omega)) h9)
          refine lv_iload hx hb d_PA_edited_55 (lv_at hl 1 rfl) ?_
          have hk56 := (stp_lt hm).2
          have ht0 : t0 < xs.length := by have := (stp_lt hm).1; omega
          refine lv_if_eq (tgt := 96) hx hb d_PA_edited_57 rfl (fun _ => ?_) (fun h9 => absurd (rfl) h9)
          refine lv_iload_n hx hb d_PA_edited_96 rfl (lv_at hl 4 rfl) ?_
          refine lv_iconst (v := 2) hx hb d_PA_edited_97 (by decide) ?_
          refine lv_icmp_ne (tgt := 117) hx hb d_PA_edited_98 rfl (fun _ => ?_) (fun h9 => absurd h9 (by rcases hkd with h | h <;> rw [h] <;> decide))
          have hvt := hvl t0 ht0
          obtain ⟨kd0, tx0, nu0, nm0, pa0, dp0, cn0, hc0, hn0⟩ := hvt.cellN
          refine lv_aload_n hx hb d_PA_edited_117 rfl (lv_at hl 2 rfl) ?_
          obtain ⟨qz13, hz13⟩ := List.getElem?_of_mem (List.mem_append_right [] hc)
          refine va_get (D := (dC, dI)) (ci := 3) (v := .ref pa) (C := R_VA) (T := T_VA) (N := 7) hx hb htb in_VA hown hK hP qz13 hz13 rfl 4 (by decide) (htb _ m_397) (fun _ h9 => h9) rfl d_PA_edited_118 ?_
          refine lv_iload hx hb d_PA_edited_121 (lv_at hl 0 rfl) ?_
          have hPc : va_P (dC, dI) vwCl ([] ++ fz) _ := zz_tlP (pre := []) (tl := fz) hP
          have hKc := hK.sub (tys' := [(cO, .object "java/lang/Object")]) [1] rfl
          refine va_csq (W.runV (As := [.int (nI t0)]) (rest := []) ⟨hx, hb, hml, hown, htb⟩ (z_AL_get l dC dI pa xs cO em t0 fz hal ht0) (cwV 1 htb (g_V (fun _ h => h) m_490 m_774 m_488 m_489 m_8) rfl rfl rfl (by decide +kernel) ⟨(by show 3 ≤ (20 + 2 * ss.length); omega), (by show 64 ≤ (500 + 80 * ss.length); omega)⟩) ⟨fun a U g mk q => by obtain ⟨q0, qP, qK⟩ := q; exact ⟨q0, qP, va_K.moved (u := U) (U := U.calling g mk a) (Vm.Alike.refl U.vm) qK⟩, (hal).recv hK hP (fun q hq => List.mem_append_right _ hq), fun U hU hW => ⟨rfl, by rw [hU]; exact hPc, va_K.moved hW.alike hKc⟩⟩ rfl rfl hl.1 rfl (lv_room (Nat.le_of_ble_eq_true rfl)) d_PA_edited_123 ⟨(by show 0 ≤ (7 * ss.length); omega), (by show 0 ≤ (97 * ss.length); omega)⟩) (fun r14 hw15 => ?_)
          have hw15 : r14 = some (xs.getD t0 0) := hw15
          obtain rfl := hw15
          refine W.eq (g2 := F0 m 126 ls [.ref (xs.getD t0 0)]) rfl ?_
          refine va_castY (C := "PatchStore$Value") hx hb hown (htb _ m_829) (nw_14 hE) (zz_recv hK hP (ci := 3) rfl (List.mem_append_right _ hc0)) d_PA_edited_126 ?_
          refine lv_astore hx hb d_PA_edited_129 hl (by decide) rfl (fun ls hl => ?_)
          have hl : lv_has ls 8 [(6, .ref (xs.getD t0 0)), (5, .int (nI t0)), (4, .int 0), (0, .ref a), (1, .ref p1), (2, .int (nI kdN)), (3, .ref yv)] := hl
          refine lv_aload hx hb d_PA_edited_131 (lv_at hl 0 rfl) ?_
          refine lv_aload_n hx hb d_PA_edited_133 rfl (lv_at hl 4 rfl) ?_
          obtain ⟨qz16, hz16⟩ := List.getElem?_of_mem (List.mem_append_right [] hpc)
          refine va_get (D := (dC, dI)) (ci := 5) (v := .ref b) (C := R_PT) (T := T_PT) (N := 3) hx hb htb in_PT hown hK hP qz16 hz16 rfl 2 (by decide) (htb _ m_631) (fun _ h9 => h9) rfl d_PA_edited_134 ?_
          refine lv_iload_n hx hb d_PA_edited_137 rfl (lv_at hl 5 rfl) ?_
          refine lv_aload_n hx hb d_PA_edited_138 rfl (lv_at hl 6 rfl) ?_
          have hPc := zz_pickP (pre := []) (fz := fz) (wc := []) hP [] rfl
          have hDc := zz_pickD (pre := []) (fz := fz) (wc := []) hD [] (by decide) rfl
          have hFc := zz_free (pre := []) (fz := fz) (wc := []) hD hS hA [] rfl
          have hKc := hK.sub (tys' := [(cB, .byte), (cO, .object "java/lang/Object")]) [0, 1] rfl
          refine va_callq (va_runS (As := [.ref (xs.getD t0 0), .ref b, .int (nI kdN), .ref yv]) (rest := []) ⟨hx, hb, hml, hown, htb⟩ ((HR s1 ss1 hs0) l dC dI _ (xs.getD t0 0) d1 (ns.getD t0 []) ((ksR rows).getD t0 []) b kdN yv dv nv vr cB cO em aK aV fz hvt hrest (by have := ks_len hwr (t := t0) (by omega); omega) (by omega) hkd hvv) (va_cwS 4 htb (g_S (fun _ h => h) m_806 m_804 m_805 m_23) rfl rfl rfl (by decide +kernel) ⟨(by show ((20 + 2 * ss1.length) + 1) ≤ (20 + 2 * ss.length); omega), (by show (27 + (500 + 80 * ss1.length)) ≤ (500 + 80 * ss.length); omega)⟩) ⟨fun a U g mk q => by obtain ⟨q0, q1, qP, qK, qD, z0⟩ := q; exact ⟨q0, q1, qP, va_K.moved (u := U) (U := U.calling g mk a) (Vm.Alike.refl U.vm) qK, qD, EX.same (U := U) (U' := U.calling g mk a) rfl z0⟩, fun U hU hW => ⟨rfl, by rw [hU], by rw [hU]; exact hPc, va_K.moved hW.alike hKc, hDc.weaken (fun _ _ _ _ => trivial), by rw [hU]; exact EX.warm hW ((hE.kept (fun a h1 h2 => hS.2.1 a h1 h2)).narrow hFc)⟩⟩ rfl rfl hl.1 rfl (lv_room (Nat.le_of_ble_eq_true rfl)) d_PA_edited_139 ⟨(by show (0 + (7 * ss1.length)) ≤ (7 * ss.length); omega), (by show (0 + (97 * ss1.length)) ≤ (97 * ss.length); omega)⟩) hS (fun q _ h => hFc q h) hFc (fun r18 u17 t H1 locs ht hvm hw19 hB hz1 hk1 hS => ?_)
          obtain ⟨hP1, hK1, hD1⟩ := hB
          rw [ht] at hP1
          have hK1 := va_K.moved hvm.symm hK1
          have hw19 : (r18 = none ∧ edt kdN vr ss1 ((ksR rows).getD t0 []) = none) ∨ ∃ y8 n8 w8, r18 = some y8 ∧ edt kdN vr ss1 ((ksR rows).getD t0 []) = some w8 ∧ VT cB cO em aK (d1 + dv) (u17 ++ fz) y8 n8 w8 := hw19
          obtain ⟨hP, hD⟩ := zz_join (pre := []) (fz := fz) (wc := []) (wr := []) (w1 := ([] ++ (u17 ++ fz))) hP hD [] [] rfl rfl (by decide) (by decide) hk1 hFc hP1 hD1
          have hK := (hK.sub (tys' := []) [] rfl).app hK1
          generalize H1 = H at hP hS ⊢
          have hP : va_P (dC, dI) vwCl ([] ++ (u17 ++ fz)) H := hP
          have hD : va_D A ([] ++ (u17 ++ fz)) := hD
          have hK : va_K (dC, dI) vwCl [(cB, .byte), (cO, .object "java/lang/Object")] s := hK
          obtain ⟨rfl, he7⟩ | ⟨y7, n7, w7, rfl, he7, hv7⟩ := hw19
          · refine W.eq (g2 := F0 m 142 ls [.null]) rfl ?_
            refine lv_astoreN hx hb d_PA_edited_142 hl (by decide) rfl (fun ls hl => ?_)
            have hl : lv_has ls 8 [(7, .null), (6, .ref (xs.getD t0 0)), (5, .int (nI t0)), (4, .int 0), (0, .ref a), (1, .ref p1), (2, .int (nI kdN)), (3, .ref yv)] := hl
            refine lv_aloadN hx hb d_PA_edited_144 (lv_at hl 0 rfl) ?_
            refine lv_ifnonnullN hx hb d_PA_edited_146 ?_
            refine lv_null hx hb d_PA_edited_149 ?_
            refine lv_goto (tgt := 170) hx hb d_PA_edited_150 rfl ?_
            have hP9 := zz_pickP (pre := []) (fz := (u17 ++ fz)) (wc := []) hP [] rfl
            have hD9 := zz_pickD (pre := []) (fz := (u17 ++ fz)) (wc := []) hD [] (by decide) rfl
            have hK9 := hK.sub (tys' := [(cB, .byte), (cO, .object "java/lang/Object")]) [0, 1] rfl
            rw [hQ]
            refine W.widen (k := (7 * ss.length)) (n := (97 * ss.length)) ((by show (0 + (7 * ss1.length)) ≤ (7 * ss.length); omega)) ((by show (0 + (97 * ss1.length)) ≤ (97 * ss.length); omega)) ?_
            exact W.aret (v := .null) hx hb hr (Or.inl ⟨_, rfl⟩) (Or.inl rfl) (fun t ht hW => ⟨⟨none, u17, rfl, Or.inl ⟨rfl, by rw [hs0]; exact heds0 hm he7⟩, ⟨by rw [ht]; exact hP9, va_K.moved hW.alike hK9, hD9⟩⟩, hS.F ht⟩) hS.2.2 d_PA_edited_170
          · refine W.eq (g2 := F0 m 142 ls [.ref y7]) rfl ?_
            have hg7 : ∀ q ∈ fz, q ∈ (u17 ++ fz) := fun q hq => List.mem_append_right _ hq
            refine lv_astore hx hb d_PA_edited_142 hl (by decide) rfl (fun ls hl => ?_)
            have hl : lv_has ls 8 [(7, .ref y7), (6, .ref (xs.getD t0 0)), (5, .int (nI t0)), (4, .int 0), (0, .ref a), (1, .ref p1), (2, .int (nI kdN)), (3, .ref yv)] := hl
            refine lv_aload hx hb d_PA_edited_144 (lv_at hl 0 rfl) ?_
            refine lv_ifnonnull (tgt := 153) hx hb d_PA_edited_146 rfl ?_
            refine lv_aload_n hx hb d_PA_edited_153 rfl (lv_at hl 4 rfl) ?_
            refine lv_iload hx hb d_PA_edited_154 (lv_at hl 2 rfl) ?_
            refine lv_iconst (v := 1) hx hb d_PA_edited_156 (by decide) ?_
            refine lv_aload hx hb d_PA_edited_157 (lv_at hl 0 rfl) ?_
            refine lv_aload hx hb d_PA_edited_159 (lv_at hl 1 rfl) ?_
            obtain ⟨qz21, hz21⟩ := List.getElem?_of_mem (List.mem_append_right [] (hg7 _ hc0))
            refine va_get (D := (dC, dI)) (ci := 3) (v := .ref nm0) (C := R_VA) (T := T_VA) (N := 7) hx hb htb in_VA hown hK hP qz21 hz21 rfl 3 (by decide) (htb _ m_392) (fun _ h9 => h9) rfl d_PA_edited_161 ?_
            obtain ⟨kd7, tx7, nu7, nm7, pa7, dp7, cn7, hc7, hren⟩ := (hv7).renamed
            have hPc := zz_pickP (pre := []) (fz := (u17 ++ fz)) (wc := []) hP [] rfl
            have hDc := zz_pickD (pre := []) (fz := (u17 ++ fz)) (wc := []) hD [] (by decide) rfl
            have hFc := zz_free (pre := []) (fz := (u17 ++ fz)) (wc := []) hD hS hA [] rfl
            have hKc := hK.sub (tys' := []) [] rfl
            refine va_callr (va_runV (As := [.ref nm0]) (rest := [.int 1, .int (nI t0), .ref a]) ⟨hx, hb, hml, hown, htb⟩ (k_VA_named l dC dI _ y7 kd7 tx7 nu7 nm7 pa7 dp7 cn7 nm0 (u17 ++ fz) hc7) (cwV 1 htb (g_V (fun _ h => h) m_518 m_822 m_516 m_517 m_18) rfl rfl rfl (by decide +kernel) ⟨(by show 3 ≤ (20 + 2 * ss.length); omega), (by show 55 ≤ (500 + 80 * ss.length); omega)⟩) ⟨fun a U g mk q => by obtain ⟨q0, q1, qP, qK, qD⟩ := q; exact ⟨q0, q1, qP, va_K.moved (u := U) (U := U.calling g mk a) (Vm.Alike.refl U.vm) qK, qD⟩, zz_recv hK hP (ci := 3) rfl (List.mem_append_right _ hc7), fun U hU hW => ⟨rfl, by rw [hU], by rw [hU]; exact hPc, va_K.moved hW.alike hKc, hDc.weaken (fun _ _ _ _ => trivial)⟩⟩ rfl rfl hl.1 rfl (lv_room (Nat.le_of_ble_eq_true rfl)) d_PA_edited_164 ⟨(by show ((0 + (7 * ss1.length)) + 1) ≤ (7 * ss.length); omega), (by show ((0 + (97 * ss1.length)) + 7) ≤ (97 * ss.length); omega)⟩) hS (fun q _ h => hFc q h) hFc (fun u22 ra25 t H1 locs ht hvm hw24 hB hz1 hk1 hS => ?_)
            obtain ⟨hP1, hK1, hD1⟩ := hB
            rw [ht] at hP1
            have hK1 := va_K.moved hvm.symm hK1
            have hw24 : True := hw24
            obtain ⟨hP, hD⟩ := zz_join (pre := []) (fz := (u17 ++ fz)) (wc := []) (wr := []) (w1 := ([(ra25, .inr (3, [.int kd7, .ref tx7, .long nu7, .ref nm0, .ref pa7, .int dp7, .int cn7]))] ++ (u17 ++ fz))) hP hD [] [] rfl rfl (by decide) (by decide) hk1 hFc hP1 hD1
            have hK := (hK.sub (tys' := [(cB, .byte), (cO, .object "java/lang/Object")]) [0, 1] rfl).app hK1
            generalize H1 = H at hP hS ⊢
            have hP : va_P (dC, dI) vwCl ([(ra25, .inr (3, [.int kd7, .ref tx7, .long nu7, .ref nm0, .ref pa7, .int dp7, .int cn7]))] ++ (u17 ++ fz)) H := hP
            have hD : va_D A ([(ra25, .inr (3, [.int kd7, .ref tx7, .long nu7, .ref nm0, .ref pa7, .int dp7, .int cn7]))] ++ (u17 ++ fz)) := hD
            have hK : va_K (dC, dI) vwCl [(cB, .byte), (cO, .object "java/lang/Object")] s := hK
            have hP := zz_pickP (pre := [(ra25, .inr (3, [.int kd7, .ref tx7, .long nu7, .ref nm0, .ref pa7, .int dp7, .int cn7]))]) (fz := (u17 ++ fz)) (wc := [(ra25, .inr (3, [.int kd7, .ref tx7, .long nu7, .ref nm0, .ref pa7, .int dp7, .int cn7]))]) hP [0] rfl
            have hD := zz_pickD (pre := [(ra25, .inr (3, [.int kd7, .ref tx7, .long nu7, .ref nm0, .ref pa7, .int dp7, .int cn7]))]) (fz := (u17 ++ fz)) (wc := [(ra25, .inr (3, [.int kd7, .ref tx7, .long nu7, .ref nm0, .ref pa7, .int dp7, .int cn7]))]) hD [0] (by decide) rfl
            have hP : va_P (dC, dI) vwCl ([] ++ ([(ra25, .inr (3, [.int kd7, .ref tx7, .long nu7, .ref nm0, .ref pa7, .int dp7, .int cn7]))] ++ (u17 ++ fz))) _ := hP
            have hD : va_D A ([] ++ ([(ra25, .inr (3, [.int kd7, .ref tx7, .long nu7, .ref nm0, .ref pa7, .int dp7, .int cn7]))] ++ (u17 ++ fz))) := hD
            have hgr0 : ∀ q ∈ (u17 ++ fz), q ∈ ([(ra25, .inr (3, [.int kd7, .ref tx7, .long nu7, .ref nm0, .ref pa7, .int dp7, .int cn7]))] ++ (u17 ++ fz)) := fun q hq => List.mem_append_right _ hq
            have hvn := hren ([(ra25, .inr (3, [.int kd7, .ref tx7, .long nu7, .ref nm0, .ref pa7, .int dp7, .int cn7]))] ++ (u17 ++ fz)) ra25 nm0 (ns.getD t0 []) hgr0 (List.mem_append_left _ List.mem_cons_self) (((hn0.mono hg7)).mono hgr0)
            have hgr : ∀ q ∈ fz, q ∈ ([(ra25, .inr (3, [.int kd7, .ref tx7, .long nu7, .ref nm0, .ref pa7, .int dp7, .int cn7]))] ++ (u17 ++ fz)) := fun q hq => hgr0 q (hg7 q hq)
            have hPc := zz_pickP (pre := []) (fz := ([(ra25, .inr (3, [.int kd7, .ref tx7, .long nu7, .ref nm0, .ref pa7, .int dp7, .int cn7]))] ++ (u17 ++ fz))) (wc := []) hP [] rfl
            have hDc := zz_pickD (pre := []) (fz := ([(ra25, .inr (3, [.int kd7, .ref tx7, .long nu7, .ref nm0, .ref pa7, .int dp7, .int cn7]))] ++ (u17 ++ fz))) (wc := []) hD [] (by decide) rfl
            have hFc := zz_free (pre := []) (fz := ([(ra25, .inr (3, [.int kd7, .ref tx7, .long nu7, .ref nm0, .ref pa7, .int dp7, .int cn7]))] ++ (u17 ++ fz))) (wc := []) hD hS hA [] rfl
            have hKc := hK.sub (tys' := [(cB, .byte), (cO, .object "java/lang/Object")]) [0, 1] rfl
            refine va_callq (va_runV (As := [.int (nI t0), .int (nI 1), .ref ra25]) (rest := []) ⟨hx, hb, hml, hown, htb⟩ (k_VA_spliced1 l dC dI _ a (d1 + dv) nn rows t0 1 ra25 (ns.getD t0 []) w7 cB cO em aK aV ([(ra25, .inr (3, [.int kd7, .ref tx7, .long nu7, .ref nm0, .ref pa7, .int dp7, .int cn7]))] ++ (u17 ++ fz)) ((hv.mono (fun q hq => hgr q hq)).up (by omega)) hk56 (by omega) (by omega) (by omega) hvn) (cwV 3 htb (g_V (fun _ h => h) m_826 m_823 m_824 m_825 m_18) rfl rfl rfl (by decide +kernel) ⟨(by show 8 ≤ (20 + 2 * ss.length); omega), (by show 196 ≤ (500 + 80 * ss.length); omega)⟩) ⟨fun a U g mk q => by obtain ⟨q0, q1, qP, qK, qD, z0⟩ := q; exact ⟨q0, q1, qP, va_K.moved (u := U) (U := U.calling g mk a) (Vm.Alike.refl U.vm) qK, qD, EX.same (U := U) (U' := U.calling g mk a) rfl z0⟩, zz_recv hK hP (ci := 3) rfl (List.mem_append_right _ (hgr _ hc)), fun U hU hW => ⟨rfl, by rw [hU], by rw [hU]; exact hPc, va_K.moved hW.alike hKc, hDc.weaken (fun _ _ _ _ => trivial), by rw [hU]; exact EX.warm hW ((hE.kept (fun a h1 h2 => hS.2.1 a h1 h2)).narrow hFc)⟩⟩ rfl rfl hl.1 rfl (lv_room (Nat.le_of_ble_eq_true rfl)) d_PA_edited_167 ⟨(by show (((0 + (7 * ss1.length)) + 1) + 6) ≤ (7 * ss.length); omega), (by show (((0 + (97 * ss1.length)) + 7) + 90) ≤ (97 * ss.length); omega)⟩) hS (fun q _ h => hFc q h) hFc (fun r27 u26 t H1 locs ht hvm hw28 hB hz1 hk1 hS => ?_)
            obtain ⟨hP1, hK1, hD1⟩ := hB
            rw [ht] at hP1
            have hK1 := va_K.moved hvm.symm hK1
            have hw28 : ∃ y8, r27 = some y8 ∧ VT cB cO em aK ((d1 + dv) + 1) (u26 ++ ([(ra25, .inr (3, [.int kd7, .ref tx7, .long nu7, .ref nm0, .ref pa7, .int dp7, .int cn7]))] ++ (u17 ++ fz))) y8 nn (spc rows t0 1 [((ns.getD t0 []), w7)]) := hw28
            obtain ⟨hP, hD⟩ := zz_join (pre := []) (fz := ([(ra25, .inr (3, [.int kd7, .ref tx7, .long nu7, .ref nm0, .ref pa7, .int dp7, .int cn7]))] ++ (u17 ++ fz))) (wc := []) (wr := []) (w1 := ([] ++ (u26 ++ ([(ra25, .inr (3, [.int kd7, .ref tx7, .long nu7, .ref nm0, .ref pa7, .int dp7, .int cn7]))] ++ (u17 ++ fz))))) hP hD [] [] rfl rfl (by decide) (by decide) hk1 hFc hP1 hD1
            have hK := (hK.sub (tys' := []) [] rfl).app hK1
            generalize H1 = H at hP hS ⊢
            have hP : va_P (dC, dI) vwCl ([] ++ (u26 ++ ([(ra25, .inr (3, [.int kd7, .ref tx7, .long nu7, .ref nm0, .ref pa7, .int dp7, .int cn7]))] ++ (u17 ++ fz)))) H := hP
            have hD : va_D A ([] ++ (u26 ++ ([(ra25, .inr (3, [.int kd7, .ref tx7, .long nu7, .ref nm0, .ref pa7, .int dp7, .int cn7]))] ++ (u17 ++ fz)))) := hD
            have hK : va_K (dC, dI) vwCl [(cB, .byte), (cO, .object "java/lang/Object")] s := hK
            obtain ⟨y9, hy9, hv9⟩ := hw28
            subst hy9
            refine W.eq (g2 := F0 m 170 ls [.ref y9]) rfl ?_
            have hP := zz_permP (pre := []) (t1 := (u26 ++ ([(ra25, .inr (3, [.int kd7, .ref tx7, .long nu7, .ref nm0, .ref pa7, .int dp7, .int cn7]))] ++ (u17 ++ fz)))) (t2 := ((u26 ++ ([(ra25, .inr (3, [.int kd7, .ref tx7, .long nu7, .ref nm0, .ref pa7, .int dp7, .int cn7]))] ++ u17)) ++ fz)) hP (pm3 _ _ _ _)
            have hD := zz_permD (pre := []) (t1 := (u26 ++ ([(ra25, .inr (3, [.int kd7, .ref tx7, .long nu7, .ref nm0, .ref pa7, .int dp7, .int cn7]))] ++ (u17 ++ fz)))) (t2 := ((u26 ++ ([(ra25, .inr (3, [.int kd7, .ref tx7, .long nu7, .ref nm0, .ref pa7, .int dp7, .int cn7]))] ++ u17)) ++ fz)) hD (pm3 _ _ _ _)
            have hP9 := zz_pickP (pre := []) (fz := ((u26 ++ ([(ra25, .inr (3, [.int kd7, .ref tx7, .long nu7, .ref nm0, .ref pa7, .int dp7, .int cn7]))] ++ u17)) ++ fz)) (wc := []) hP [] rfl
            have hD9 := zz_pickD (pre := []) (fz := ((u26 ++ ([(ra25, .inr (3, [.int kd7, .ref tx7, .long nu7, .ref nm0, .ref pa7, .int dp7, .int cn7]))] ++ u17)) ++ fz)) (wc := []) hD [] (by decide) rfl
            have hK9 := hK.sub (tys' := [(cB, .byte), (cO, .object "java/lang/Object")]) [0, 1] rfl
            rw [hQ]
            refine W.widen (k := (7 * ss.length)) (n := (97 * ss.length)) ((by show (((0 + (7 * ss1.length)) + 1) + 6) ≤ (7 * ss.length); omega)) ((by show (((0 + (97 * ss1.length)) + 7) + 90) ≤ (97 * ss.length); omega)) ?_
            exact W.aret (v := .ref y9) hx hb hr (Or.inl ⟨_, rfl⟩) (Or.inr ⟨_, rfl⟩) (fun t ht hW => ⟨⟨(some y9), (u26 ++ ([(ra25, .inr (3, [.int kd7, .ref tx7, .long nu7, .ref nm0, .ref pa7, .int dp7, .int cn7]))] ++ u17)), rfl, Or.inr ⟨_, _, _, rfl, by rw [hs0, heds hm he7]; exact congrArg some (spc_nm (fun h => by rw [hns (hhk.symm.trans h)])).symm, (hv9.mono (fun q hq => (pm3 _ _ _ _).mem_iff.mpr hq)).up (by omega)⟩, ⟨by rw [ht]; exact hP9, va_K.moved hW.alike hK9, hD9⟩⟩, hS.F ht⟩) hS.2.2 d_PA_edited_170
    · refine lv_icmp_ne (tgt := 25) hx hb d_PA_edited_11 rfl (fun _ => ?_) (fun h9 => absurd h9 (by rw [hkB]; decide))
      refine lv_iconst (v := 0) hx hb d_PA_edited_25 (by decide) ?_
      refine lv_istore hx hb d_PA_edited_26 hl (by decide) rfl (fun ls hl => ?_)
      have hl : lv_has ls 8 [(4, .int 0), (0, .ref a), (1, .ref p1), (2, .int (nI kdN)), (3, .ref yv)] := hl
      refine lv_iload hx hb d_PA_edited_28 (lv_at hl 0 rfl) ?_
      refine lv_if_eq (tgt := 41) hx hb d_PA_edited_30 rfl (fun _ => ?_) (fun h9 => absurd (rfl) h9)
      have hedn : stp rows s1 = none → edt kdN vr (s1 :: ss1) rows = none := fun h => by rw [edt]; split; rw [ed1, if_neg (by omega), h]; rfl; rw [h]; rfl
      have heds : ∀ {t0 : Nat} {w7 : List Row}, stp rows s1 = some t0 → edt kdN vr ss1 ((ksR rows).getD t0 []) = some w7 → edt kdN vr (s1 :: ss1) rows = some (spc rows t0 1 [((ksN rows).getD t0 [], w7)]) := fun h h9 => by rw [edt]; split; (next hs => rw [hs, edt, if_neg (by omega)] at h9; cases h9; rw [ed1, if_neg (by omega), h, Option.map_some, if_neg (by omega)]); (rw [h, Option.bind_some, h9]; rfl)
      have heds0 : ∀ {t0 : Nat}, stp rows s1 = some t0 → edt kdN vr ss1 ((ksR rows).getD t0 []) = none → edt kdN vr (s1 :: ss1) rows = none := fun h h9 => by rw [edt]; split; (next hs => rw [hs, edt, if_neg (by omega)] at h9; cases h9); (rw [h, Option.bind_some, h9]; rfl)
      refine lv_aload_n hx hb d_PA_edited_41 rfl (lv_at hl 2 rfl) ?_
      refine lv_aload_n hx hb d_PA_edited_42 rfl (lv_at hl 1 rfl) ?_
      have hPc := zz_pickP (pre := []) (fz := fz) (wc := []) hP [] rfl
      have hDc := zz_pickD (pre := []) (fz := fz) (wc := []) hD [] (by decide) rfl
      have hFc := zz_free (pre := []) (fz := fz) (wc := []) hD hS hA [] rfl
      have hKc := hK.sub (tys' := [(cB, .byte), (cO, .object "java/lang/Object")]) [0, 1] rfl
      refine va_calli (va_runV (As := [.ref a]) (rest := []) ⟨hx, hb, hml, hown, htb⟩ (k_PT_firstPlaceIn l dC dI _ a d1 nn rows p1 s1 ss1 cB cO em aK aV fz hv hpt1) (cwV 1 htb (g_V (fun _ h => h) m_791 m_821 m_789 m_790 m_21) rfl rfl rfl (by decide +kernel) ⟨(by show 5 ≤ (20 + 2 * ss.length); omega), (by show 107 ≤ (500 + 80 * ss.length); omega)⟩) ⟨fun a U g mk q => by obtain ⟨q0, q1, qP, qK, qD, z0⟩ := q; exact ⟨q0, q1, qP, va_K.moved (u := U) (U := U.calling g mk a) (Vm.Alike.refl U.vm) qK, qD, EX.same (U := U) (U' := U.calling g mk a) rfl z0⟩, zz_recv hK hP (ci := 5) rfl (List.mem_append_right _ hpc), fun U hU hW => ⟨rfl, by rw [hU], by rw [hU]; exact hPc, va_K.moved hW.alike hKc, hDc.weaken (fun _ _ _ _ => trivial), by rw [hU]; exact EX.warm hW ((hE.kept (fun a h1 h2 => hS.2.1 a h1 h2)).narrow hFc)⟩⟩ rfl rfl hl.1 rfl (lv_room (Nat.le_of_ble_eq_true rfl)) d_PA_edited_43 ⟨(by show 0 ≤ (7 * ss.length); omega), (by show 0 ≤ (97 * ss.length); omega)⟩) hS (fun q _ h => hFc q h) hFc (fun r6 u5 t H1 locs ht hvm hw7 hB hz1 hk1 hS => ?_)
      obtain ⟨hP1, hK1, hD1⟩ := hB
      rw [ht] at hP1
      have hK1 := va_K.moved hvm.symm hK1
      have hw7 : r6 = oI (stp rows s1) := hw7
      obtain ⟨hP, hD⟩ := zz_join (pre := []) (fz := fz) (wc := []) (wr := []) (w1 := ([] ++ fz)) hP hD [] [] rfl rfl (by decide) (by decide) hk1 hFc hP1 hD1
      have hK := (hK.sub (tys' := []) [] rfl).app hK1
      generalize H1 = H at hP hS ⊢
      have hP : va_P (dC, dI) vwCl ([] ++ fz) H := hP
      have hD : va_D A ([] ++ fz) := hD
      have hK : va_K (dC, dI) vwCl [(cB, .byte), (cO, .object "java/lang/Object")] s := hK
      obtain rfl := hw7
      refine lv_istore hx hb d_PA_edited_46 hl (by decide) rfl (fun ls hl => ?_)
      have hl : lv_has ls 8 [(5, .int (oI (stp rows s1))), (4, .int 0), (0, .ref a), (1, .ref p1), (2, .int (nI kdN)), (3, .ref yv)] := hl
      refine lv_iload hx hb d_PA_edited_48 (lv_at hl 0 rfl) ?_
      rcases hm : stp rows s1 with _ | t0
      · have hm2 : oI (stp rows s1) = -1 := by rw [hm]; rfl
        refine W.eq (g2 := F0 m 50 ls [.int (-1)]) rfl ?_
        refine lv_if_ge (tgt := 55) hx hb d_PA_edited_50 rfl (fun h9 => absurd h9 (by decide)) (fun _ => ?_)
        refine lv_null hx hb d_PA_edited_53 ?_
        have hP9 := zz_pickP (pre := []) (fz := fz) (wc := []) hP [] rfl
        have hD9 := zz_pickD (pre := []) (fz := fz) (wc := []) hD [] (by decide) rfl
        have hK9 := hK.sub (tys' := [(cB, .byte), (cO, .object "java/lang/Object")]) [0, 1] rfl
        rw [hQ]
        refine W.widen (k := (7 * ss.length)) (n := (97 * ss.length)) ((by show 0 ≤ (7 * ss.length); omega)) ((by show 0 ≤ (97 * ss.length); omega)) ?_
        exact W.aret (v := .null) hx hb hr (Or.inl ⟨_, rfl⟩) (Or.inl rfl) (fun t ht hW => ⟨⟨none, ([] : va_W), rfl, Or.inl ⟨rfl, by rw [hs0]; exact hedn hm⟩, ⟨by rw [ht]; exact hP9, va_K.moved hW.alike hK9, hD9⟩⟩, hS.F ht⟩) hS.2.2 d_PA_edited_54
      · have hm2 : oI (stp rows s1) = nI t0 := by rw [hm]; rfl
        have htl : t0 ≤ xs.length := by have := (stp_lt hm).1; omega
        rw [hm2] at hl
        have hl : lv_has ls 8 [(5, .int (nI t0)), (4, .int 0), (0, .ref a), (1, .ref p1), (2, .int (nI kdN)), (3, .ref yv)] := hl
        refine W.eq (g2 := F0 m 50 ls [.int (nI t0)]) rfl ?_
        refine lv_if_ge (tgt := 55) hx hb d_PA_edited_50 rfl (fun _ => ?_) (fun h9 => absurd (nI_nn t0 (by omega)) h9)
        refine lv_iload hx hb d_PA_edited_55 (lv_at hl 1 rfl) ?_
        have hk56 := (stp_lt hm).2
        have ht0 : t0 < xs.length := by have := (stp_lt hm).1; omega
        refine lv_if_eq (tgt := 96) hx hb d_PA_edited_57 rfl (fun _ => ?_) (fun h9 => absurd (rfl) h9)
        refine lv_iload_n hx hb d_PA_edited_96 rfl (lv_at hl 4 rfl) ?_
        refine lv_iconst (v := 2) hx hb d_PA_edited_97 (by decide) ?_
        refine lv_icmp_ne (tgt := 117) hx hb d_PA_edited_98 rfl (fun _ => ?_) (fun h9 => absurd h9 (by rcases hkd with h | h <;> rw [h] <;> decide))
        have hvt := hvl t0 ht0
        obtain ⟨kd0, tx0, nu0, nm0, pa0, dp0, cn0, hc0, hn0⟩ := hvt.cellN
        refine lv_aload_n hx hb d_PA_edited_117 rfl (lv_at hl 2 rfl) ?_
        obtain ⟨qz9, hz9⟩ := List.getElem?_of_mem (List.mem_append_right [] hc)
        refine va_get (D := (dC, dI)) (ci := 3) (v := .ref pa) (C := R_VA) (T := T_VA) (N := 7) hx hb htb in_VA hown hK hP qz9 hz9 rfl 4 (by decide) (htb _ m_397) (fun _ h9 => h9) rfl d_PA_edited_118 ?_
        refine lv_iload hx hb d_PA_edited_121 (lv_at hl 0 rfl) ?_
        have hPc : va_P (dC, dI) vwCl ([] ++ fz) _ := zz_tlP (pre := []) (tl := fz) hP
        have hKc := hK.sub (tys' := [(cO, .object "java/lang/Object")]) [1] rfl
        refine va_csq (W.runV (As := [.int (nI t0)]) (rest := []) ⟨hx, hb, hml, hown, htb⟩ (z_AL_get l dC dI pa xs cO em t0 fz hal ht0) (cwV 1 htb (g_V (fun _ h => h) m_490 m_774 m_488 m_489 m_8) rfl rfl rfl (by decide +kernel) ⟨(by show 3 ≤ (20 + 2 * ss.length); omega), (by show 64 ≤ (500 + 80 * ss.length); omega)⟩) ⟨fun a U g mk q => by obtain ⟨q0, qP, qK⟩ := q; exact ⟨q0, qP, va_K.moved (u := U) (U := U.calling g mk a) (Vm.Alike.refl U.vm) qK⟩, (hal).recv hK hP (fun q hq => List.mem_append_right _ hq), fun U hU hW => ⟨rfl, by rw [hU]; exact hPc, va_K.moved hW.alike hKc⟩⟩ rfl rfl hl.1 rfl (lv_room (Nat.le_of_ble_eq_true rfl)) d_PA_edited_123 ⟨(by show 0 ≤ (7 * ss.length); omega), (by show 0 ≤ (97 * ss.length); omega)⟩) (fun r10 hw11 => ?_)
        have hw11 : r10 = some (xs.getD t0 0) := hw11
        obtain rfl := hw11
        refine W.eq (g2 := F0 m 126 ls [.ref (xs.getD t0 0)]) rfl ?_
        refine va_castY (C := "PatchStore$Value") hx hb hown (htb _ m_829) (nw_14 hE) (zz_recv hK hP (ci := 3) rfl (List.mem_append_right _ hc0)) d_PA_edited_126 ?_
        refine lv_astore hx hb d_PA_edited_129 hl (by decide) rfl (fun ls hl => ?_)
        have hl : lv_has ls 8 [(6, .ref (xs.getD t0 0)), (5, .int (nI t0)), (4, .int 0), (0, .ref a), (1, .ref p1), (2, .int (nI kdN)), (3, .ref yv)] := hl
        refine lv_aload hx hb d_PA_edited_131 (lv_at hl 0 rfl) ?_
        refine lv_aload_n hx hb d_PA_edited_133 rfl (lv_at hl 4 rfl) ?_
        obtain ⟨qz12, hz12⟩ := List.getElem?_of_mem (List.mem_append_right [] hpc)
        refine va_get (D := (dC, dI)) (ci := 5) (v := .ref b) (C := R_PT) (T := T_PT) (N := 3) hx hb htb in_PT hown hK hP qz12 hz12 rfl 2 (by decide) (htb _ m_631) (fun _ h9 => h9) rfl d_PA_edited_134 ?_
        refine lv_iload_n hx hb d_PA_edited_137 rfl (lv_at hl 5 rfl) ?_
        refine lv_aload_n hx hb d_PA_edited_138 rfl (lv_at hl 6 rfl) ?_
        have hPc := zz_pickP (pre := []) (fz := fz) (wc := []) hP [] rfl
        have hDc := zz_pickD (pre := []) (fz := fz) (wc := []) hD [] (by decide) rfl
        have hFc := zz_free (pre := []) (fz := fz) (wc := []) hD hS hA [] rfl
        have hKc := hK.sub (tys' := [(cB, .byte), (cO, .object "java/lang/Object")]) [0, 1] rfl
        refine va_callq (va_runS (As := [.ref (xs.getD t0 0), .ref b, .int (nI kdN), .ref yv]) (rest := []) ⟨hx, hb, hml, hown, htb⟩ ((HR s1 ss1 hs0) l dC dI _ (xs.getD t0 0) d1 (ns.getD t0 []) ((ksR rows).getD t0 []) b kdN yv dv nv vr cB cO em aK aV fz hvt hrest (by have := ks_len hwr (t := t0) (by omega); omega) (by omega) hkd hvv) (va_cwS 4 htb (g_S (fun _ h => h) m_806 m_804 m_805 m_23) rfl rfl rfl (by decide +kernel) ⟨(by show ((20 + 2 * ss1.length) + 1) ≤ (20 + 2 * ss.length); omega), (by show (27 + (500 + 80 * ss1.length)) ≤ (500 + 80 * ss.length); omega)⟩) ⟨fun a U g mk q => by obtain ⟨q0, q1, qP, qK, qD, z0⟩ := q; exact ⟨q0, q1, qP, va_K.moved (u := U) (U := U.calling g mk a) (Vm.Alike.refl U.vm) qK, qD, EX.same (U := U) (U' := U.calling g mk a) rfl z0⟩, fun U hU hW => ⟨rfl, by rw [hU], by rw [hU]; exact hPc, va_K.moved hW.alike hKc, hDc.weaken (fun _ _ _ _ => trivial), by rw [hU]; exact EX.warm hW ((hE.kept (fun a h1 h2 => hS.2.1 a h1 h2)).narrow hFc)⟩⟩ rfl rfl hl.1 rfl (lv_room (Nat.le_of_ble_eq_true rfl)) d_PA_edited_139 ⟨(by show (0 + (7 * ss1.length)) ≤ (7 * ss.length); omega), (by show (0 + (97 * ss1.length)) ≤ (97 * ss.length); omega)⟩) hS (fun q _ h => hFc q h) hFc (fun r14 u13 t H1 locs ht hvm hw15 hB hz1 hk1 hS => ?_)
        obtain ⟨hP1, hK1, hD1⟩ := hB
        rw [ht] at hP1
        have hK1 := va_K.moved hvm.symm hK1
        have hw15 : (r14 = none ∧ edt kdN vr ss1 ((ksR rows).getD t0 []) = none) ∨ ∃ y8 n8 w8, r14 = some y8 ∧ edt kdN vr ss1 ((ksR rows).getD t0 []) = some w8 ∧ VT cB cO em aK (d1 + dv) (u13 ++ fz) y8 n8 w8 := hw15
        obtain ⟨hP, hD⟩ := zz_join (pre := []) (fz := fz) (wc := []) (wr := []) (w1 := ([] ++ (u13 ++ fz))) hP hD [] [] rfl rfl (by decide) (by decide) hk1 hFc hP1 hD1
        have hK := (hK.sub (tys' := []) [] rfl).app hK1
        generalize H1 = H at hP hS ⊢
        have hP : va_P (dC, dI) vwCl ([] ++ (u13 ++ fz)) H := hP
        have hD : va_D A ([] ++ (u13 ++ fz)) := hD
        have hK : va_K (dC, dI) vwCl [(cB, .byte), (cO, .object "java/lang/Object")] s := hK
        obtain ⟨rfl, he7⟩ | ⟨y7, n7, w7, rfl, he7, hv7⟩ := hw15
        · refine W.eq (g2 := F0 m 142 ls [.null]) rfl ?_
          refine lv_astoreN hx hb d_PA_edited_142 hl (by decide) rfl (fun ls hl => ?_)
          have hl : lv_has ls 8 [(7, .null), (6, .ref (xs.getD t0 0)), (5, .int (nI t0)), (4, .int 0), (0, .ref a), (1, .ref p1), (2, .int (nI kdN)), (3, .ref yv)] := hl
          refine lv_aloadN hx hb d_PA_edited_144 (lv_at hl 0 rfl) ?_
          refine lv_ifnonnullN hx hb d_PA_edited_146 ?_
          refine lv_null hx hb d_PA_edited_149 ?_
          refine lv_goto (tgt := 170) hx hb d_PA_edited_150 rfl ?_
          have hP9 := zz_pickP (pre := []) (fz := (u13 ++ fz)) (wc := []) hP [] rfl
          have hD9 := zz_pickD (pre := []) (fz := (u13 ++ fz)) (wc := []) hD [] (by decide) rfl
          have hK9 := hK.sub (tys' := [(cB, .byte), (cO, .object "java/lang/Object")]) [0, 1] rfl
          rw [hQ]
          refine W.widen (k := (7 * ss.length)) (n := (97 * ss.length)) ((by show (0 + (7 * ss1.length)) ≤ (7 * ss.length); omega)) ((by show (0 + (97 * ss1.length)) ≤ (97 * ss.length); omega)) ?_
          exact W.aret (v := .null) hx hb hr (Or.inl ⟨_, rfl⟩) (Or.inl rfl) (fun t ht hW => ⟨⟨none, u13, rfl, Or.inl ⟨rfl, by rw [hs0]; exact heds0 hm he7⟩, ⟨by rw [ht]; exact hP9, va_K.moved hW.alike hK9, hD9⟩⟩, hS.F ht⟩) hS.2.2 d_PA_edited_170
        · refine W.eq (g2 := F0 m 142 ls [.ref y7]) rfl ?_
          have hg7 : ∀ q ∈ fz, q ∈ (u13 ++ fz) := fun q hq => List.mem_append_right _ hq
          refine lv_astore hx hb d_PA_edited_142 hl (by decide) rfl (fun ls hl => ?_)
          have hl : lv_has ls 8 [(7, .ref y7), (6, .ref (xs.getD t0 0)), (5, .int (nI t0)), (4, .int 0), (0, .ref a), (1, .ref p1), (2, .int (nI kdN)), (3, .ref yv)] := hl
          refine lv_aload hx hb d_PA_edited_144 (lv_at hl 0 rfl) ?_
          refine lv_ifnonnull (tgt := 153) hx hb d_PA_edited_146 rfl ?_
          refine lv_aload_n hx hb d_PA_edited_153 rfl (lv_at hl 4 rfl) ?_
          refine lv_iload hx hb d_PA_edited_154 (lv_at hl 2 rfl) ?_
          refine lv_iconst (v := 1) hx hb d_PA_edited_156 (by decide) ?_
          refine lv_aload hx hb d_PA_edited_157 (lv_at hl 0 rfl) ?_
          refine lv_aload hx hb d_PA_edited_159 (lv_at hl 1 rfl) ?_
          obtain ⟨qz17, hz17⟩ := List.getElem?_of_mem (List.mem_append_right [] (hg7 _ hc0))
          refine va_get (D := (dC, dI)) (ci := 3) (v := .ref nm0) (C := R_VA) (T := T_VA) (N := 7) hx hb htb in_VA hown hK hP qz17 hz17 rfl 3 (by decide) (htb _ m_392) (fun _ h9 => h9) rfl d_PA_edited_161 ?_
          obtain ⟨kd7, tx7, nu7, nm7, pa7, dp7, cn7, hc7, hren⟩ := (hv7).renamed
          have hPc := zz_pickP (pre := []) (fz := (u13 ++ fz)) (wc := []) hP [] rfl
          have hDc := zz_pickD (pre := []) (fz := (u13 ++ fz)) (wc := []) hD [] (by decide) rfl
          have hFc := zz_free (pre := []) (fz := (u13 ++ fz)) (wc := []) hD hS hA [] rfl
          have hKc := hK.sub (tys' := []) [] rfl
          refine va_callr (va_runV (As := [.ref nm0]) (rest := [.int 1, .int (nI t0), .ref a]) ⟨hx, hb, hml, hown, htb⟩ (k_VA_named l dC dI _ y7 kd7 tx7 nu7 nm7 pa7 dp7 cn7 nm0 (u13 ++ fz) hc7) (cwV 1 htb (g_V (fun _ h => h) m_518 m_822 m_516 m_517 m_18) rfl rfl rfl (by decide +kernel) ⟨(by show 3 ≤ (20 + 2 * ss.length); omega), (by show 55 ≤ (500 + 80 * ss.length); omega)⟩) ⟨fun a U g mk q => by obtain ⟨q0, q1, qP, qK, qD⟩ := q; exact ⟨q0, q1, qP, va_K.moved (u := U) (U := U.calling g mk a) (Vm.Alike.refl U.vm) qK, qD⟩, zz_recv hK hP (ci := 3) rfl (List.mem_append_right _ hc7), fun U hU hW => ⟨rfl, by rw [hU], by rw [hU]; exact hPc, va_K.moved hW.alike hKc, hDc.weaken (fun _ _ _ _ => trivial)⟩⟩ rfl rfl hl.1 rfl (lv_room (Nat.le_of_ble_eq_true rfl)) d_PA_edited_164 ⟨(by show ((0 + (7 * ss1.length)) + 1) ≤ (7 * ss.length); omega), (by show ((0 + (97 * ss1.length)) + 7) ≤ (97 * ss.length); omega)⟩) hS (fun q _ h => hFc q h) hFc (fun u18 ra21 t H1 locs ht hvm hw20 hB hz1 hk1 hS => ?_)
          obtain ⟨hP1, hK1, hD1⟩ := hB
          rw [ht] at hP1
          have hK1 := va_K.moved hvm.symm hK1
          have hw20 : True := hw20
          obtain ⟨hP, hD⟩ := zz_join (pre := []) (fz := (u13 ++ fz)) (wc := []) (wr := []) (w1 := ([(ra21, .inr (3, [.int kd7, .ref tx7, .long nu7, .ref nm0, .ref pa7, .int dp7, .int cn7]))] ++ (u13 ++ fz))) hP hD [] [] rfl rfl (by decide) (by decide) hk1 hFc hP1 hD1
          have hK := (hK.sub (tys' := [(cB, .byte), (cO, .object "java/lang/Object")]) [0, 1] rfl).app hK1
          generalize H1 = H at hP hS ⊢
          have hP : va_P (dC, dI) vwCl ([(ra21, .inr (3, [.int kd7, .ref tx7, .long nu7, .ref nm0, .ref pa7, .int dp7, .int cn7]))] ++ (u13 ++ fz)) H := hP
          have hD : va_D A ([(ra21, .inr (3, [.int kd7, .ref tx7, .long nu7, .ref nm0, .ref pa7, .int dp7, .int cn7]))] ++ (u13 ++ fz)) := hD
          have hK : va_K (dC, dI) vwCl [(cB, .byte), (cO, .object "java/lang/Object")] s := hK
          have hP := zz_pickP (pre := [(ra21, .inr (3, [.int kd7, .ref tx7, .long nu7, .ref nm0, .ref pa7, .int dp7, .int cn7]))]) (fz := (u13 ++ fz)) (wc := [(ra21, .inr (3, [.int kd7, .ref tx7, .long nu7, .ref nm0, .ref pa7, .int dp7, .int cn7]))]) hP [0] rfl
          have hD := zz_pickD (pre := [(ra21, .inr (3, [.int kd7, .ref tx7, .long nu7, .ref nm0, .ref pa7, .int dp7, .int cn7]))]) (fz := (u13 ++ fz)) (wc := [(ra21, .inr (3, [.int kd7, .ref tx7, .long nu7, .ref nm0, .ref pa7, .int dp7, .int cn7]))]) hD [0] (by decide) rfl
          have hP : va_P (dC, dI) vwCl ([] ++ ([(ra21, .inr (3, [.int kd7, .ref tx7, .long nu7, .ref nm0, .ref pa7, .int dp7, .int cn7]))] ++ (u13 ++ fz))) _ := hP
          have hD : va_D A ([] ++ ([(ra21, .inr (3, [.int kd7, .ref tx7, .long nu7, .ref nm0, .ref pa7, .int dp7, .int cn7]))] ++ (u13 ++ fz))) := hD
          have hgr0 : ∀ q ∈ (u13 ++ fz), q ∈ ([(ra21, .inr (3, [.int kd7, .ref tx7, .long nu7, .ref nm0, .ref pa7, .int dp7, .int cn7]))] ++ (u13 ++ fz)) := fun q hq => List.mem_append_right _ hq
          have hvn := hren ([(ra21, .inr (3, [.int kd7, .ref tx7, .long nu7, .ref nm0, .ref pa7, .int dp7, .int cn7]))] ++ (u13 ++ fz)) ra21 nm0 (ns.getD t0 []) hgr0 (List.mem_append_left _ List.mem_cons_self) (((hn0.mono hg7)).mono hgr0)
          have hgr : ∀ q ∈ fz, q ∈ ([(ra21, .inr (3, [.int kd7, .ref tx7, .long nu7, .ref nm0, .ref pa7, .int dp7, .int cn7]))] ++ (u13 ++ fz)) := fun q hq => hgr0 q (hg7 q hq)
          have hPc := zz_pickP (pre := []) (fz := ([(ra21, .inr (3, [.int kd7, .ref tx7, .long nu7, .ref nm0, .ref pa7, .int dp7, .int cn7]))] ++ (u13 ++ fz))) (wc := []) hP [] rfl
          have hDc := zz_pickD (pre := []) (fz := ([(ra21, .inr (3, [.int kd7, .ref tx7, .long nu7, .ref nm0, .ref pa7, .int dp7, .int cn7]))] ++ (u13 ++ fz))) (wc := []) hD [] (by decide) rfl
          have hFc := zz_free (pre := []) (fz := ([(ra21, .inr (3, [.int kd7, .ref tx7, .long nu7, .ref nm0, .ref pa7, .int dp7, .int cn7]))] ++ (u13 ++ fz))) (wc := []) hD hS hA [] rfl
          have hKc := hK.sub (tys' := [(cB, .byte), (cO, .object "java/lang/Object")]) [0, 1] rfl
          refine va_callq (va_runV (As := [.int (nI t0), .int (nI 1), .ref ra21]) (rest := []) ⟨hx, hb, hml, hown, htb⟩ (k_VA_spliced1 l dC dI _ a (d1 + dv) nn rows t0 1 ra21 (ns.getD t0 []) w7 cB cO em aK aV ([(ra21, .inr (3, [.int kd7, .ref tx7, .long nu7, .ref nm0, .ref pa7, .int dp7, .int cn7]))] ++ (u13 ++ fz)) ((hv.mono (fun q hq => hgr q hq)).up (by omega)) hk56 (by omega) (by omega) (by omega) hvn) (cwV 3 htb (g_V (fun _ h => h) m_826 m_823 m_824 m_825 m_18) rfl rfl rfl (by decide +kernel) ⟨(by show 8 ≤ (20 + 2 * ss.length); omega), (by show 196 ≤ (500 + 80 * ss.length); omega)⟩) ⟨fun a U g mk q => by obtain ⟨q0, q1, qP, qK, qD, z0⟩ := q; exact ⟨q0, q1, qP, va_K.moved (u := U) (U := U.calling g mk a) (Vm.Alike.refl U.vm) qK, qD, EX.same (U := U) (U' := U.calling g mk a) rfl z0⟩, zz_recv hK hP (ci := 3) rfl (List.mem_append_right _ (hgr _ hc)), fun U hU hW => ⟨rfl, by rw [hU], by rw [hU]; exact hPc, va_K.moved hW.alike hKc, hDc.weaken (fun _ _ _ _ => trivial), by rw [hU]; exact EX.warm hW ((hE.kept (fun a h1 h2 => hS.2.1 a h1 h2)).narrow hFc)⟩⟩ rfl rfl hl.1 rfl (lv_room (Nat.le_of_ble_eq_true rfl)) d_PA_edited_167 ⟨(by show (((0 + (7 * ss1.length)) + 1) + 6) ≤ (7 * ss.length); omega), (by show (((0 + (97 * ss1.length)) + 7) + 90) ≤ (97 * ss.length); omega)⟩) hS (fun q _ h => hFc q h) hFc (fun r23 u22 t H1 locs ht hvm hw24 hB hz1 hk1 hS => ?_)
          obtain ⟨hP1, hK1, hD1⟩ := hB
          rw [ht] at hP1
          have hK1 := va_K.moved hvm.symm hK1
          have hw24 : ∃ y8, r23 = some y8 ∧ VT cB cO em aK ((d1 + dv) + 1) (u22 ++ ([(ra21, .inr (3, [.int kd7, .ref tx7, .long nu7, .ref nm0, .ref pa7, .int dp7, .int cn7]))] ++ (u13 ++ fz))) y8 nn (spc rows t0 1 [((ns.getD t0 []), w7)]) := hw24
          obtain ⟨hP, hD⟩ := zz_join (pre := []) (fz := ([(ra21, .inr (3, [.int kd7, .ref tx7, .long nu7, .ref nm0, .ref pa7, .int dp7, .int cn7]))] ++ (u13 ++ fz))) (wc := []) (wr := []) (w1 := ([] ++ (u22 ++ ([(ra21, .inr (3, [.int kd7, .ref tx7, .long nu7, .ref nm0, .ref pa7, .int dp7, .int cn7]))] ++ (u13 ++ fz))))) hP hD [] [] rfl rfl (by decide) (by decide) hk1 hFc hP1 hD1
          have hK := (hK.sub (tys' := []) [] rfl).app hK1
          generalize H1 = H at hP hS ⊢
          have hP : va_P (dC, dI) vwCl ([] ++ (u22 ++ ([(ra21, .inr (3, [.int kd7, .ref tx7, .long nu7, .ref nm0, .ref pa7, .int dp7, .int cn7]))] ++ (u13 ++ fz)))) H := hP
          have hD : va_D A ([] ++ (u22 ++ ([(ra21, .inr (3, [.int kd7, .ref tx7, .long nu7, .ref nm0, .ref pa7, .int dp7, .int cn7]))] ++ (u13 ++ fz)))) := hD
          have hK : va_K (dC, dI) vwCl [(cB, .byte), (cO, .object "java/lang/Object")] s := hK
          obtain ⟨y9, hy9, hv9⟩ := hw24
          subst hy9
          refine W.eq (g2 := F0 m 170 ls [.ref y9]) rfl ?_
          have hP := zz_permP (pre := []) (t1 := (u22 ++ ([(ra21, .inr (3, [.int kd7, .ref tx7, .long nu7, .ref nm0, .ref pa7, .int dp7, .int cn7]))] ++ (u13 ++ fz)))) (t2 := ((u22 ++ ([(ra21, .inr (3, [.int kd7, .ref tx7, .long nu7, .ref nm0, .ref pa7, .int dp7, .int cn7]))] ++ u13)) ++ fz)) hP (pm3 _ _ _ _)
          have hD := zz_permD (pre := []) (t1 := (u22 ++ ([(ra21, .inr (3, [.int kd7, .ref tx7, .long nu7, .ref nm0, .ref pa7, .int dp7, .int cn7]))] ++ (u13 ++ fz)))) (t2 := ((u22 ++ ([(ra21, .inr (3, [.int kd7, .ref tx7, .long nu7, .ref nm0, .ref pa7, .int dp7, .int cn7]))] ++ u13)) ++ fz)) hD (pm3 _ _ _ _)
          have hP9 := zz_pickP (pre := []) (fz := ((u22 ++ ([(ra21, .inr (3, [.int kd7, .ref tx7, .long nu7, .ref nm0, .ref pa7, .int dp7, .int cn7]))] ++ u13)) ++ fz)) (wc := []) hP [] rfl
          have hD9 := zz_pickD (pre := []) (fz := ((u22 ++ ([(ra21, .inr (3, [.int kd7, .ref tx7, .long nu7, .ref nm0, .ref pa7, .int dp7, .int cn7]))] ++ u13)) ++ fz)) (wc := []) hD [] (by decide) rfl
          have hK9 := hK.sub (tys' := [(cB, .byte), (cO, .object "java/lang/Object")]) [0, 1] rfl
          rw [hQ]
          refine W.widen (k := (7 * ss.length)) (n := (97 * ss.length)) ((by show (((0 + (7 * ss1.length)) + 1) + 6) ≤ (7 * ss.length); omega)) ((by show (((0 + (97 * ss1.length)) + 7) + 90) ≤ (97 * ss.length); omega)) ?_
          exact W.aret (v := .ref y9) hx hb hr (Or.inl ⟨_, rfl⟩) (Or.inr ⟨_, rfl⟩) (fun t ht hW => ⟨⟨(some y9), (u22 ++ ([(ra21, .inr (3, [.int kd7, .ref tx7, .long nu7, .ref nm0, .ref pa7, .int dp7, .int cn7]))] ++ u13)), rfl, Or.inr ⟨_, _, _, rfl, by rw [hs0, heds hm he7]; exact congrArg some (spc_nm (fun h => by rw [hns (hhk.symm.trans h)])).symm, (hv9.mono (fun q hq => (pm3 _ _ _ _).mem_iff.mpr hq)).up (by omega)⟩, ⟨by rw [ht]; exact hP9, va_K.moved hW.alike hK9, hD9⟩⟩, hS.F ht⟩) hS.2.2 d_PA_edited_170
set_option maxHeartbeats 1000000 in
set_option maxRecDepth 100000 in
/-- edited(at, way, kind, value) -/
theorem k_PA_editedN (l : Launch) (dC : Nat → ClassId) (dI : Nat → Nat → Nat) (sz : Nat) (a : Nat) (d : Nat) (nn : List Nat) (rows : List Row) (p1 : Nat) (ss : List (List Nat)) (cB : ClassId) (cO : ClassId) (em : Nat) (aK : Nat → Nat) (aV : Nat → Nat) (fz : va_W) (hv : VT cB cO em aK d fz a nn rows) (hpt : PTz cB aK fz ss p1) (hsz : rows.length ≤ 33) (hdd : d < 90) (HR : ∀ s1 ss1, ss = s1 :: ss1 → C_PA_editedN ss1) : Met l y_PA_edited ws_PA_edited ({ frames := (20 + 2 * ss.length), cells := (7 * ss.length), slots := (97 * ss.length), locals := (500 + 80 * ss.length) }) (va_Pc [.ref a, .ref p1, .int 2, .null] (fun U => U.heap.size = sz ∧ va_P (dC, dI) vwCl ([] ++ fz) U.heap ∧ va_K (dC, dI) vwCl [(cB, .byte), (cO, .object "java/lang/Object")] U ∧ va_D (fun _ => True) ([] ++ fz) ∧ EX em aK aV (va_A ([] ++ fz) sz) U U.heap)) (va_Qq (fun (r : Option Nat) (u : va_W) => (r = none ∧ edt 2 [] ss rows = none) ∨ ∃ y8 n8 w8, r = some y8 ∧ edt 2 [] ss rows = some w8 ∧ VT cB cO em aK d (u ++ fz) y8 n8 w8) (fun u t => va_P (dC, dI) vwCl ([] ++ (u ++ fz)) t.heap ∧ va_K (dC, dI) vwCl [(cB, .byte), (cO, .object "java/lang/Object")] t ∧ va_D (va_A ([] ++ fz) sz) ([] ++ (u ++ fz))) (va_A ([] ++ fz) sz)) (7 * ss.length) (97 * ss.length) (va_A ([] ++ fz) sz) := by
  refine Met.ofW (cc := c_PA_edited) (maxL := 8) (ret := (some (.object "PatchStore$Value"))) (by decide) rfl ?_
  intro p e s m args below meth c s₁ B hml hv
  obtain ⟨hargs, hsz, hP, hK, hD0, hE⟩ := hv
  rw [show entryFrame m args 8 = entryFrame m ([.ref a, .ref p1, .int 2, .null]).toArray 8 by rw [hargs]]
  have hx := B.exec
  have hb := B.bytes
  have hr := B.returns
  have hts := atoms_spec (ws := ws_PA_edited) B.pre
  have htb := fun w (h : w ∈ TBL) => hts w (List.mem_cons_of_mem _ h)
  have hown : s.vm.findClass R_PA = some m.cls := findClass_of_methodNamed B.named
  have hlocks := B.notSynchronized
  subst hsz
  have hD := hD0.self (sz := s.heap.size)
  generalize hAe : va_A ([] ++ fz) s.heap.size = A at hD hE ⊢
  have hA : ∀ q : Nat, s.heap.size ≤ q → A q := fun q h => by rw [← hAe]; exact Or.inr h
  have hS : va_S A s.heap s.heap [] := va_S.rf
  have hP : va_P (dC, dI) vwCl ([] ++ fz) s.heap := hP
  have hl := lv_entry ([.ref a, .ref p1, .int 2, .null]) (n := 8) (Nat.le_of_ble_eq_true rfl)
  rw [lg_entry_eq]
  generalize (lg_sl ([.ref a, .ref p1, .int 2, .null]) ++ List.replicate (8 - (lg_sl ([.ref a, .ref p1, .int 2, .null])).length) Slot.unset).toArray = ls at hl ⊢
  have hl : lv_has ls 8 [(0, .ref a), (1, .ref p1), (2, .int 2), (3, .null)] := hl
  refine zz_nQ (fun Q hQ => ?_)
  obtain hs0 | ⟨s1, ss1, hs0⟩ : ss = [] ∨ ∃ s1 ss1, ss = s1 :: ss1 := by cases ss with | nil => exact Or.inl rfl | cons a b => exact Or.inr ⟨a, b, rfl⟩
  · have hpt1 : PTz cB aK fz [] p1 := hs0 ▸ hpt
    refine lv_aload_n hx hb d_PA_edited_0 rfl (lv_at hl 1 rfl) ?_
    have hPc := zz_pickP (pre := []) (fz := fz) (wc := []) hP [] rfl
    have hDc := zz_pickD (pre := []) (fz := fz) (wc := []) hD [] (by decide) rfl
    have hFc := zz_free (pre := []) (fz := fz) (wc := []) hD hS hA [] rfl
    have hKc := hK.sub (tys' := []) [] rfl
    refine va_calli (va_runV (As := []) (rest := []) ⟨hx, hb, hml, hown, htb⟩ (k_PT_hasNoStep l dC dI _ p1 ([] : List (List Nat)) cB em aK aV fz hpt1) (cwV 0 htb (g_V (fun _ h => h) m_810 m_807 m_808 m_809 m_21) rfl rfl rfl (by decide +kernel) ⟨(by show 1 ≤ (20 + 2 * ss.length); omega), (by show 20 ≤ (500 + 80 * ss.length); omega)⟩) ⟨fun a U g mk q => by obtain ⟨q0, q1, qP, qK, qD, z0⟩ := q; exact ⟨q0, q1, qP, va_K.moved (u := U) (U := U.calling g mk a) (Vm.Alike.refl U.vm) qK, qD, EX.same (U := U) (U' := U.calling g mk a) rfl z0⟩, zz_recv hK hP (ci := 5) rfl (List.mem_append_right _ hpt1.cell.choose_spec), fun U hU hW => ⟨rfl, by rw [hU], by rw [hU]; exact hPc, va_K.moved hW.alike hKc, hDc.weaken (fun _ _ _ _ => trivial), by rw [hU]; exact EX.warm hW ((hE.kept (fun a h1 h2 => hS.2.1 a h1 h2)).narrow hFc)⟩⟩ rfl rfl hl.1 rfl (lv_room (Nat.le_of_ble_eq_true rfl)) d_PA_edited_1 ⟨(by show 0 ≤ (7 * ss.length); omega), (by show 0 ≤ (97 * ss.length); omega)⟩) hS (fun q _ h => hFc q h) hFc (fun r2 u1 t H1 locs ht hvm hw3 hB hz1 hk1 hS => ?_)
    obtain ⟨hP1, hK1, hD1⟩ := hB
    rw [ht] at hP1
    have hK1 := va_K.moved hvm.symm hK1
    have hw3 : r2 = bI (decide (([] : List (List Nat)).length = 0)) := hw3
    obtain ⟨hP, hD⟩ := zz_join (pre := []) (fz := fz) (wc := []) (wr := []) (w1 := ([] ++ fz)) hP hD [] [] rfl rfl (by decide) (by decide) hk1 hFc hP1 hD1
    have hK := (hK.sub (tys' := [(cB, .byte), (cO, .object "java/lang/Object")]) [0, 1] rfl).app hK1
    generalize H1 = H at hP hS ⊢
    have hP : va_P (dC, dI) vwCl ([] ++ fz) H := hP
    have hD : va_D A ([] ++ fz) := hD
    have hK : va_K (dC, dI) vwCl [(cB, .byte), (cO, .object "java/lang/Object")] s := hK
    refine lv_if_eq (tgt := 9) hx hb d_PA_edited_4 rfl (fun h9 => absurd h9 (by rw [hw3]; decide)) (fun _ => ?_)
    refine lv_aload_nN hx hb d_PA_edited_7 rfl (lv_at hl 3 rfl) ?_
    have hP9 := zz_pickP (pre := []) (fz := fz) (wc := []) hP [] rfl
    have hD9 := zz_pickD (pre := []) (fz := fz) (wc := []) hD [] (by decide) rfl
    have hK9 := hK.sub (tys' := [(cB, .byte), (cO, .object "java/lang/Object")]) [0, 1] rfl
    rw [hQ]
    refine W.widen (k := (7 * ss.length)) (n := (97 * ss.length)) ((by show 0 ≤ (7 * ss.length); omega)) ((by show 0 ≤ (97 * ss.length); omega)) ?_
    exact W.aret (v := .null) hx hb hr (Or.inl ⟨_, rfl⟩) (Or.inl rfl) (fun t ht hW => ⟨⟨none, ([] : va_W), rfl, Or.inl ⟨rfl, by rw [hs0]; rfl⟩, ⟨by rw [ht]; exact hP9, va_K.moved hW.alike hK9, hD9⟩⟩, hS.F ht⟩) hS.2.2 d_PA_edited_8
  · obtain ⟨d1, rfl⟩ := hv.succ
    have hpt1 : PTz cB aK fz (s1 :: ss1) p1 := hs0 ▸ hpt
    have hsl0 : ss.length = ss1.length + 1 := by rw [hs0]; rfl
    obtain ⟨st, b, hpc, hst, hcc, hrest⟩ := (id hpt1 : PTz cB aK fz (s1 :: ss1) p1)
    obtain ⟨kd, tx, nu, nm, pa, dp, cn, tt, kk, num, rt, xs, ns, hc, htx, hnm, hal, hhd, hnl, hrl, hk5, hvl, hhk, hns, hdp, hcn, hrw, h160⟩ := (id hv : VT cB cO em aK (d1 + 1) fz a nn rows).opn
    have hwr := hv.wr
    have hkl := ks_le hwr
    have hlc : (s1 :: ss1).length = ss1.length + 1 := rfl
    refine lv_aload_n hx hb d_PA_edited_0 rfl (lv_at hl 1 rfl) ?_
    have hPc := zz_pickP (pre := []) (fz := fz) (wc := []) hP [] rfl
    have hDc := zz_pickD (pre := []) (fz := fz) (wc := []) hD [] (by decide) rfl
    have hFc := zz_free (pre := []) (fz := fz) (wc := []) hD hS hA [] rfl
    have hKc := hK.sub (tys' := []) [] rfl
    refine va_calli (va_runV (As := []) (rest := []) ⟨hx, hb, hml, hown, htb⟩ (k_PT_hasNoStep l dC dI _ p1 (s1 :: ss1) cB em aK aV fz hpt1) (cwV 0 htb (g_V (fun _ h => h) m_810 m_807 m_808 m_809 m_21) rfl rfl rfl (by decide +kernel) ⟨(by show 1 ≤ (20 + 2 * ss.length); omega), (by show 20 ≤ (500 + 80 * ss.length); omega)⟩) ⟨fun a U g mk q => by obtain ⟨q0, q1, qP, qK, qD, z0⟩ := q; exact ⟨q0, q1, qP, va_K.moved (u := U) (U := U.calling g mk a) (Vm.Alike.refl U.vm) qK, qD, EX.same (U := U) (U' := U.calling g mk a) rfl z0⟩, zz_recv hK hP (ci := 5) rfl (List.mem_append_right _ hpc), fun U hU hW => ⟨rfl, by rw [hU], by rw [hU]; exact hPc, va_K.moved hW.alike hKc, hDc.weaken (fun _ _ _ _ => trivial), by rw [hU]; exact EX.warm hW ((hE.kept (fun a h1 h2 => hS.2.1 a h1 h2)).narrow hFc)⟩⟩ rfl rfl hl.1 rfl (lv_room (Nat.le_of_ble_eq_true rfl)) d_PA_edited_1 ⟨(by show 0 ≤ (7 * ss.length); omega), (by show 0 ≤ (97 * ss.length); omega)⟩) hS (fun q _ h => hFc q h) hFc (fun r2 u1 t H1 locs ht hvm hw3 hB hz1 hk1 hS => ?_)
    obtain ⟨hP1, hK1, hD1⟩ := hB
    rw [ht] at hP1
    have hK1 := va_K.moved hvm.symm hK1
    have hw3 : r2 = bI (decide ((s1 :: ss1).length = 0)) := hw3
    obtain ⟨hP, hD⟩ := zz_join (pre := []) (fz := fz) (wc := []) (wr := []) (w1 := ([] ++ fz)) hP hD [] [] rfl rfl (by decide) (by decide) hk1 hFc hP1 hD1
    have hK := (hK.sub (tys' := [(cB, .byte), (cO, .object "java/lang/Object")]) [0, 1] rfl).app hK1
    generalize H1 = H at hP hS ⊢
    have hP : va_P (dC, dI) vwCl ([] ++ fz) H := hP
    have hD : va_D A ([] ++ fz) := hD
    have hK : va_K (dC, dI) vwCl [(cB, .byte), (cO, .object "java/lang/Object")] s := hK
    refine lv_if_eq (tgt := 9) hx hb d_PA_edited_4 rfl (fun _ => ?_) (fun h9 => absurd (by rw [hw3, decide_eq_false (by simp)]; rfl) h9)
    refine lv_iload_n hx hb d_PA_edited_9 rfl (lv_at hl 2 rfl) ?_
    refine lv_iconst (v := 1) hx hb d_PA_edited_10 (by decide) ?_
    refine lv_icmp_ne (tgt := 25) hx hb d_PA_edited_11 rfl (fun _ => ?_) (fun h9 => absurd h9 (by decide))
    refine lv_iconst (v := 0) hx hb d_PA_edited_25 (by decide) ?_
    refine lv_istore hx hb d_PA_edited_26 hl (by decide) rfl (fun ls hl => ?_)
    have hl : lv_has ls 8 [(4, .int 0), (0, .ref a), (1, .ref p1), (2, .int 2), (3, .null)] := hl
    refine lv_iload hx hb d_PA_edited_28 (lv_at hl 0 rfl) ?_
    refine lv_if_eq (tgt := 41) hx hb d_PA_edited_30 rfl (fun _ => ?_) (fun h9 => absurd (rfl) h9)
    refine lv_aload_n hx hb d_PA_edited_41 rfl (lv_at hl 2 rfl) ?_
    refine lv_aload_n hx hb d_PA_edited_42 rfl (lv_at hl 1 rfl) ?_
    have hPc := zz_pickP (pre := []) (fz := fz) (wc := []) hP [] rfl
    have hDc := zz_pickD (pre := []) (fz := fz) (wc := []) hD [] (by decide) rfl
    have hFc := zz_free (pre := []) (fz := fz) (wc := []) hD hS hA [] rfl
    have hKc := hK.sub (tys' := [(cB, .byte), (cO, .object "java/lang/Object")]) [0, 1] rfl
    refine va_calli (va_runV (As := [.ref a]) (rest := []) ⟨hx, hb, hml, hown, htb⟩ (k_PT_firstPlaceIn l dC dI _ a d1 nn rows p1 s1 ss1 cB cO em aK aV fz hv hpt1) (cwV 1 htb (g_V (fun _ h => h) m_791 m_821 m_789 m_790 m_21) rfl rfl rfl (by decide +kernel) ⟨(by show 5 ≤ (20 + 2 * ss.length); omega), (by show 107 ≤ (500 + 80 * ss.length); omega)⟩) ⟨fun a U g mk q => by obtain ⟨q0, q1, qP, qK, qD, z0⟩ := q; exact ⟨q0, q1, qP, va_K.moved (u := U) (U := U.calling g mk a) (Vm.Alike.refl U.vm) qK, qD, EX.same (U := U) (U' := U.calling g mk a) rfl z0⟩, zz_recv hK hP (ci := 5) rfl (List.mem_append_right _ hpc), fun U hU hW => ⟨rfl, by rw [hU], by rw [hU]; exact hPc, va_K.moved hW.alike hKc, hDc.weaken (fun _ _ _ _ => trivial), by rw [hU]; exact EX.warm hW ((hE.kept (fun a h1 h2 => hS.2.1 a h1 h2)).narrow hFc)⟩⟩ rfl rfl hl.1 rfl (lv_room (Nat.le_of_ble_eq_true rfl)) d_PA_edited_43 ⟨(by show 0 ≤ (7 * ss.length); omega), (by show 0 ≤ (97 * ss.length); omega)⟩) hS (fun q _ h => hFc q h) hFc (fun r6 u5 t H1 locs ht hvm hw7 hB hz1 hk1 hS => ?_)
    obtain ⟨hP1, hK1, hD1⟩ := hB
    rw [ht] at hP1
    have hK1 := va_K.moved hvm.symm hK1
    have hw7 : r6 = oI (stp rows s1) := hw7
    obtain ⟨hP, hD⟩ := zz_join (pre := []) (fz := fz) (wc := []) (wr := []) (w1 := ([] ++ fz)) hP hD [] [] rfl rfl (by decide) (by decide) hk1 hFc hP1 hD1
    have hK := (hK.sub (tys' := []) [] rfl).app hK1
    generalize H1 = H at hP hS ⊢
    have hP : va_P (dC, dI) vwCl ([] ++ fz) H := hP
    have hD : va_D A ([] ++ fz) := hD
    have hK : va_K (dC, dI) vwCl [(cB, .byte), (cO, .object "java/lang/Object")] s := hK
    obtain rfl := hw7
    refine lv_istore hx hb d_PA_edited_46 hl (by decide) rfl (fun ls hl => ?_)
    have hl : lv_has ls 8 [(5, .int (oI (stp rows s1))), (4, .int 0), (0, .ref a), (1, .ref p1), (2, .int 2), (3, .null)] := hl
    refine lv_iload hx hb d_PA_edited_48 (lv_at hl 0 rfl) ?_
    rcases hm : stp rows s1 with _ | t0
    · have hm2 : oI (stp rows s1) = -1 := by rw [hm]; rfl
      refine W.eq (g2 := F0 m 50 ls [.int (-1)]) rfl ?_
      refine lv_if_ge (tgt := 55) hx hb d_PA_edited_50 rfl (fun h9 => absurd h9 (by decide)) (fun _ => ?_)
      refine lv_null hx hb d_PA_edited_53 ?_
      have hP9 := zz_pickP (pre := []) (fz := fz) (wc := []) hP [] rfl
      have hD9 := zz_pickD (pre := []) (fz := fz) (wc := []) hD [] (by decide) rfl
      have hK9 := hK.sub (tys' := [(cB, .byte), (cO, .object "java/lang/Object")]) [0, 1] rfl
      rw [hQ]
      refine W.widen (k := (7 * ss.length)) (n := (97 * ss.length)) ((by show 0 ≤ (7 * ss.length); omega)) ((by show 0 ≤ (97 * ss.length); omega)) ?_
      exact W.aret (v := .null) hx hb hr (Or.inl ⟨_, rfl⟩) (Or.inl rfl) (fun t ht hW => ⟨⟨none, ([] : va_W), rfl, Or.inl ⟨rfl, by rw [hs0, edt]; split; rw [ed1, if_neg (by decide), hm]; rfl; rw [hm]; rfl⟩, ⟨by rw [ht]; exact hP9, va_K.moved hW.alike hK9, hD9⟩⟩, hS.F ht⟩) hS.2.2 d_PA_edited_54
    · have hm2 : oI (stp rows s1) = nI t0 := by rw [hm]; rfl
      have htl : t0 ≤ xs.length := by have := (stp_lt hm).1; omega
      rw [hm2] at hl
      have hl : lv_has ls 8 [(5, .int (nI t0)), (4, .int 0), (0, .ref a), (1, .ref p1), (2, .int 2), (3, .null)] := hl
      refine W.eq (g2 := F0 m 50 ls [.int (nI t0)]) rfl ?_
      refine lv_if_ge (tgt := 55) hx hb d_PA_edited_50 rfl (fun _ => ?_) (fun h9 => absurd (nI_nn t0 (by omega)) h9)
      refine lv_iload hx hb d_PA_edited_55 (lv_at hl 1 rfl) ?_
      have hk56 := (stp_lt hm).2
      have ht0 : t0 < xs.length := by have := (stp_lt hm).1; omega
      refine lv_if_eq (tgt := 96) hx hb d_PA_edited_57 rfl (fun _ => ?_) (fun h9 => absurd (rfl) h9)
      refine lv_iload_n hx hb d_PA_edited_96 rfl (lv_at hl 4 rfl) ?_
      refine lv_iconst (v := 2) hx hb d_PA_edited_97 (by decide) ?_
      refine lv_icmp_ne (tgt := 117) hx hb d_PA_edited_98 rfl (fun h9 => absurd (rfl) h9) (fun _ => ?_)
      refine lv_aload_n hx hb d_PA_edited_101 rfl (lv_at hl 3 rfl) ?_
      have hPc := zz_pickP (pre := []) (fz := fz) (wc := []) hP [] rfl
      have hDc := zz_pickD (pre := []) (fz := fz) (wc := []) hD [] (by decide) rfl
      have hFc := zz_free (pre := []) (fz := fz) (wc := []) hD hS hA [] rfl
      have hKc := hK.sub (tys' := []) [] rfl
      refine va_calli (va_runV (As := []) (rest := []) ⟨hx, hb, hml, hown, htb⟩ (k_PT_hasOneStep l dC dI _ p1 (s1 :: ss1) cB em aK aV fz hpt1) (cwV 0 htb (g_V (fun _ h => h) m_814 m_811 m_812 m_813 m_21) rfl rfl rfl (by decide +kernel) ⟨(by show 1 ≤ (20 + 2 * ss.length); omega), (by show 20 ≤ (500 + 80 * ss.length); omega)⟩) ⟨fun a U g mk q => by obtain ⟨q0, q1, qP, qK, qD, z0⟩ := q; exact ⟨q0, q1, qP, va_K.moved (u := U) (U := U.calling g mk a) (Vm.Alike.refl U.vm) qK, qD, EX.same (U := U) (U' := U.calling g mk a) rfl z0⟩, zz_recv hK hP (ci := 5) rfl (List.mem_append_right _ hpc), fun U hU hW => ⟨rfl, by rw [hU], by rw [hU]; exact hPc, va_K.moved hW.alike hKc, hDc.weaken (fun _ _ _ _ => trivial), by rw [hU]; exact EX.warm hW ((hE.kept (fun a h1 h2 => hS.2.1 a h1 h2)).narrow hFc)⟩⟩ rfl rfl hl.1 rfl (lv_room (Nat.le_of_ble_eq_true rfl)) d_PA_edited_102 ⟨(by show 0 ≤ (7 * ss.length); omega), (by show 0 ≤ (97 * ss.length); omega)⟩) hS (fun q _ h => hFc q h) hFc (fun r10 u9 t H1 locs ht hvm hw11 hB hz1 hk1 hS => ?_)
      obtain ⟨hP1, hK1, hD1⟩ := hB
      rw [ht] at hP1
      have hK1 := va_K.moved hvm.symm hK1
      have hw11 : r10 = bI (decide ((s1 :: ss1).length = 1)) := hw11
      obtain ⟨hP, hD⟩ := zz_join (pre := []) (fz := fz) (wc := []) (wr := []) (w1 := ([] ++ fz)) hP hD [] [] rfl rfl (by decide) (by decide) hk1 hFc hP1 hD1
      have hK := (hK.sub (tys' := [(cB, .byte), (cO, .object "java/lang/Object")]) [0, 1] rfl).app hK1
      generalize H1 = H at hP hS ⊢
      have hP : va_P (dC, dI) vwCl ([] ++ fz) H := hP
      have hD : va_D A ([] ++ fz) := hD
      have hK : va_K (dC, dI) vwCl [(cB, .byte), (cO, .object "java/lang/Object")] s := hK
      by_cases hss : ss1 = []
      · subst hss
        refine lv_if_eq (tgt := 117) hx hb d_PA_edited_105 rfl (fun h9 => absurd h9 (by rw [hw11, decide_eq_true (by rfl)]; decide)) (fun _ => ?_)
        refine lv_aload_n hx hb d_PA_edited_108 rfl (lv_at hl 2 rfl) ?_
        refine lv_iload hx hb d_PA_edited_109 (lv_at hl 0 rfl) ?_
        refine lv_iconst (v := 1) hx hb d_PA_edited_111 (by decide) ?_
        refine lv_null hx hb d_PA_edited_112 ?_
        have hPc := zz_pickP (pre := []) (fz := fz) (wc := []) hP [] rfl
        have hDc := zz_pickD (pre := []) (fz := fz) (wc := []) hD [] (by decide) rfl
        have hFc := zz_free (pre := []) (fz := fz) (wc := []) hD hS hA [] rfl
        have hKc := hK.sub (tys' := [(cB, .byte), (cO, .object "java/lang/Object")]) [0, 1] rfl
        refine va_callq (va_runV (As := [.int (nI t0), .int (nI 1), .null]) (rest := []) ⟨hx, hb, hml, hown, htb⟩ (k_VA_spliced0 l dC dI _ a d1 nn rows t0 1 cB cO em aK aV fz ((hv.mono (fun q hq => hq)).up (by omega)) hk56 (by omega) (by omega) (by omega)) (cwV 3 htb (g_V (fun _ h => h) m_826 m_823 m_824 m_825 m_18) rfl rfl rfl (by decide +kernel) ⟨(by show 8 ≤ (20 + 2 * ss.length); omega), (by show 196 ≤ (500 + 80 * ss.length); omega)⟩) ⟨fun a U g mk q => by obtain ⟨q0, q1, qP, qK, qD, z0⟩ := q; exact ⟨q0, q1, qP, va_K.moved (u := U) (U := U.calling g mk a) (Vm.Alike.refl U.vm) qK, qD, EX.same (U := U) (U' := U.calling g mk a) rfl z0⟩, zz_recv hK hP (ci := 3) rfl (List.mem_append_right _ hc), fun U hU hW => ⟨rfl, by rw [hU], by rw [hU]; exact hPc, va_K.moved hW.alike hKc, hDc.weaken (fun _ _ _ _ => trivial), by rw [hU]; exact EX.warm hW ((hE.kept (fun a h1 h2 => hS.2.1 a h1 h2)).narrow hFc)⟩⟩ rfl rfl hl.1 rfl (lv_room (Nat.le_of_ble_eq_true rfl)) d_PA_edited_113 ⟨(by show (0 + 6) ≤ (7 * ss.length); omega), (by show (0 + 90) ≤ (97 * ss.length); omega)⟩) hS (fun q _ h => hFc q h) hFc (fun r14 u13 t H1 locs ht hvm hw15 hB hz1 hk1 hS => ?_)
        obtain ⟨hP1, hK1, hD1⟩ := hB
        rw [ht] at hP1
        have hK1 := va_K.moved hvm.symm hK1
        have hw15 : ∃ y8, r14 = some y8 ∧ VT cB cO em aK (d1 + 1) (u13 ++ fz) y8 nn (spc rows t0 1 ([] : List (List Nat × List Row))) := hw15
        obtain ⟨hP, hD⟩ := zz_join (pre := []) (fz := fz) (wc := []) (wr := []) (w1 := ([] ++ (u13 ++ fz))) hP hD [] [] rfl rfl (by decide) (by decide) hk1 hFc hP1 hD1
        have hK := (hK.sub (tys' := []) [] rfl).app hK1
        generalize H1 = H at hP hS ⊢
        have hP : va_P (dC, dI) vwCl ([] ++ (u13 ++ fz)) H := hP
        have hD : va_D A ([] ++ (u13 ++ fz)) := hD
        have hK : va_K (dC, dI) vwCl [(cB, .byte), (cO, .object "java/lang/Object")] s := hK
        obtain ⟨y9, hy9, hv9⟩ := hw15
        subst hy9
        refine W.eq (g2 := F0 m 116 ls [.ref y9]) rfl ?_
        have hP9 := zz_pickP (pre := []) (fz := (u13 ++ fz)) (wc := []) hP [] rfl
        have hD9 := zz_pickD (pre := []) (fz := (u13 ++ fz)) (wc := []) hD [] (by decide) rfl
        have hK9 := hK.sub (tys' := [(cB, .byte), (cO, .object "java/lang/Object")]) [0, 1] rfl
        rw [hQ]
        refine W.widen (k := (7 * ss.length)) (n := (97 * ss.length)) ((by show (0 + 6) ≤ (7 * ss.length); omega)) ((by show (0 + 90) ≤ (97 * ss.length); omega)) ?_
        exact W.aret (v := .ref y9) hx hb hr (Or.inl ⟨_, rfl⟩) (Or.inr ⟨_, rfl⟩) (fun t ht hW => ⟨⟨(some y9), u13, rfl, Or.inr ⟨_, _, _, rfl, by rw [hs0, edt, if_pos rfl, ed1, if_neg (by decide), hm, Option.map_some, if_pos rfl], hv9.up (by omega)⟩, ⟨by rw [ht]; exact hP9, va_K.moved hW.alike hK9, hD9⟩⟩, hS.F ht⟩) hS.2.2 d_PA_edited_116
      · refine lv_if_eq (tgt := 117) hx hb d_PA_edited_105 rfl (fun _ => ?_) (fun h9 => absurd (by rw [hw11, decide_eq_false (by rw [hlc]; exact fun h => hss (List.length_eq_zero_iff.mp (by omega)))]; rfl) h9)
        have hvt := hvl t0 ht0
        obtain ⟨kd0, tx0, nu0, nm0, pa0, dp0, cn0, hc0, hn0⟩ := hvt.cellN
        refine lv_aload_n hx hb d_PA_edited_117 rfl (lv_at hl 2 rfl) ?_
        obtain ⟨qz13, hz13⟩ := List.getElem?_of_mem (List.mem_append_right [] hc)
        refine va_get (D := (dC, dI)) (ci := 3) (v := .ref pa) (C := R_VA) (T := T_VA) (N := 7) hx hb htb in_VA hown hK hP qz13 hz13 rfl 4 (by decide) (htb _ m_397) (fun _ h9 => h9) rfl d_PA_edited_118 ?_
        refine lv_iload hx hb d_PA_edited_121 (lv_at hl 0 rfl) ?_
        have hPc : va_P (dC, dI) vwCl ([] ++ fz) _ := zz_tlP (pre := []) (tl := fz) hP
        have hKc := hK.sub (tys' := [(cO, .object "java/lang/Object")]) [1] rfl
        refine va_csq (W.runV (As := [.int (nI t0)]) (rest := []) ⟨hx, hb, hml, hown, htb⟩ (z_AL_get l dC dI pa xs cO em t0 fz hal ht0) (cwV 1 htb (g_V (fun _ h => h) m_490 m_774 m_488 m_489 m_8) rfl rfl rfl (by decide +kernel) ⟨(by show 3 ≤ (20 + 2 * ss.length); omega), (by show 64 ≤ (500 + 80 * ss.length); omega)⟩) ⟨fun a U g mk q => by obtain ⟨q0, qP, qK⟩ := q; exact ⟨q0, qP, va_K.moved (u := U) (U := U.calling g mk a) (Vm.Alike.refl U.vm) qK⟩, (hal).recv hK hP (fun q hq => List.mem_append_right _ hq), fun U hU hW => ⟨rfl, by rw [hU]; exact hPc, va_K.moved hW.alike hKc⟩⟩ rfl rfl hl.1 rfl (lv_room (Nat.le_of_ble_eq_true rfl)) d_PA_edited_123 ⟨(by show 0 ≤ (7 * ss.length); omega), (by show 0 ≤ (97 * ss.length); omega)⟩) (fun r14 hw15 => ?_)
        have hw15 : r14 = some (xs.getD t0 0) := hw15
        obtain rfl := hw15
        refine W.eq (g2 := F0 m 126 ls [.ref (xs.getD t0 0)]) rfl ?_
        refine va_castY (C := "PatchStore$Value") hx hb hown (htb _ m_829) (nw_14 hE) (zz_recv hK hP (ci := 3) rfl (List.mem_append_right _ hc0)) d_PA_edited_126 ?_
        refine lv_astore hx hb d_PA_edited_129 hl (by decide) rfl (fun ls hl => ?_)
        have hl : lv_has ls 8 [(6, .ref (xs.getD t0 0)), (5, .int (nI t0)), (4, .int 0), (0, .ref a), (1, .ref p1), (2, .int 2), (3, .null)] := hl
        refine lv_aload hx hb d_PA_edited_131 (lv_at hl 0 rfl) ?_
        refine lv_aload_n hx hb d_PA_edited_133 rfl (lv_at hl 4 rfl) ?_
        obtain ⟨qz16, hz16⟩ := List.getElem?_of_mem (List.mem_append_right [] hpc)
        refine va_get (D := (dC, dI)) (ci := 5) (v := .ref b) (C := R_PT) (T := T_PT) (N := 3) hx hb htb in_PT hown hK hP qz16 hz16 rfl 2 (by decide) (htb _ m_631) (fun _ h9 => h9) rfl d_PA_edited_134 ?_
        refine lv_iload_n hx hb d_PA_edited_137 rfl (lv_at hl 5 rfl) ?_
        refine lv_aload_nN hx hb d_PA_edited_138 rfl (lv_at hl 6 rfl) ?_
        have hPc := zz_pickP (pre := []) (fz := fz) (wc := []) hP [] rfl
        have hDc := zz_pickD (pre := []) (fz := fz) (wc := []) hD [] (by decide) rfl
        have hFc := zz_free (pre := []) (fz := fz) (wc := []) hD hS hA [] rfl
        have hKc := hK.sub (tys' := [(cB, .byte), (cO, .object "java/lang/Object")]) [0, 1] rfl
        refine va_callq (va_runS (As := [.ref (xs.getD t0 0), .ref b, .int 2, .null]) (rest := []) ⟨hx, hb, hml, hown, htb⟩ ((HR s1 ss1 hs0) l dC dI _ (xs.getD t0 0) d1 (ns.getD t0 []) ((ksR rows).getD t0 []) b cB cO em aK aV fz hvt hrest (by have := ks_len hwr (t := t0) (by omega); omega) (by omega)) (va_cwS 4 htb (g_S (fun _ h => h) m_806 m_804 m_805 m_23) rfl rfl rfl (by decide +kernel) ⟨(by show ((20 + 2 * ss1.length) + 1) ≤ (20 + 2 * ss.length); omega), (by show (27 + (500 + 80 * ss1.length)) ≤ (500 + 80 * ss.length); omega)⟩) ⟨fun a U g mk q => by obtain ⟨q0, q1, qP, qK, qD, z0⟩ := q; exact ⟨q0, q1, qP, va_K.moved (u := U) (U := U.calling g mk a) (Vm.Alike.refl U.vm) qK, qD, EX.same (U := U) (U' := U.calling g mk a) rfl z0⟩, fun U hU hW => ⟨rfl, by rw [hU], by rw [hU]; exact hPc, va_K.moved hW.alike hKc, hDc.weaken (fun _ _ _ _ => trivial), by rw [hU]; exact EX.warm hW ((hE.kept (fun a h1 h2 => hS.2.1 a h1 h2)).narrow hFc)⟩⟩ rfl rfl hl.1 rfl (lv_room (Nat.le_of_ble_eq_true rfl)) d_PA_edited_139 ⟨(by show (0 + (7 * ss1.length)) ≤ (7 * ss.length); omega), (by show (0 + (97 * ss1.length)) ≤ (97 * ss.length); omega)⟩) hS (fun q _ h => hFc q h) hFc (fun r18 u17 t H1 locs ht hvm hw19 hB hz1 hk1 hS => ?_)
        obtain ⟨hP1, hK1, hD1⟩ := hB
        rw [ht] at hP1
        have hK1 := va_K.moved hvm.symm hK1
        have hw19 : (r18 = none ∧ edt 2 [] ss1 ((ksR rows).getD t0 []) = none) ∨ ∃ y8 n8 w8, r18 = some y8 ∧ edt 2 [] ss1 ((ksR rows).getD t0 []) = some w8 ∧ VT cB cO em aK d1 (u17 ++ fz) y8 n8 w8 := hw19
        obtain ⟨hP, hD⟩ := zz_join (pre := []) (fz := fz) (wc := []) (wr := []) (w1 := ([] ++ (u17 ++ fz))) hP hD [] [] rfl rfl (by decide) (by decide) hk1 hFc hP1 hD1
        have hK := (hK.sub (tys' := []) [] rfl).app hK1
        generalize H1 = H at hP hS ⊢
        have hP : va_P (dC, dI) vwCl ([] ++ (u17 ++ fz)) H := hP
        have hD : va_D A ([] ++ (u17 ++ fz)) := hD
        have hK : va_K (dC, dI) vwCl [(cB, .byte), (cO, .object "java/lang/Object")] s := hK
        obtain ⟨rfl, he7⟩ | ⟨y7, n7, w7, rfl, he7, hv7⟩ := hw19
        · refine W.eq (g2 := F0 m 142 ls [.null]) rfl ?_
          refine lv_astoreN hx hb d_PA_edited_142 hl (by decide) rfl (fun ls hl => ?_)
          have hl : lv_has ls 8 [(7, .null), (6, .ref (xs.getD t0 0)), (5, .int (nI t0)), (4, .int 0), (0, .ref a), (1, .ref p1), (2, .int 2), (3, .null)] := hl
          refine lv_aloadN hx hb d_PA_edited_144 (lv_at hl 0 rfl) ?_
          refine lv_ifnonnullN hx hb d_PA_edited_146 ?_
          refine lv_null hx hb d_PA_edited_149 ?_
          refine lv_goto (tgt := 170) hx hb d_PA_edited_150 rfl ?_
          have hP9 := zz_pickP (pre := []) (fz := (u17 ++ fz)) (wc := []) hP [] rfl
          have hD9 := zz_pickD (pre := []) (fz := (u17 ++ fz)) (wc := []) hD [] (by decide) rfl
          have hK9 := hK.sub (tys' := [(cB, .byte), (cO, .object "java/lang/Object")]) [0, 1] rfl
          rw [hQ]
          refine W.widen (k := (7 * ss.length)) (n := (97 * ss.length)) ((by show (0 + (7 * ss1.length)) ≤ (7 * ss.length); omega)) ((by show (0 + (97 * ss1.length)) ≤ (97 * ss.length); omega)) ?_
          exact W.aret (v := .null) hx hb hr (Or.inl ⟨_, rfl⟩) (Or.inl rfl) (fun t ht hW => ⟨⟨none, u17, rfl, Or.inl ⟨rfl, by rw [hs0, edt, if_neg hss, hm, Option.bind_some, he7]; rfl⟩, ⟨by rw [ht]; exact hP9, va_K.moved hW.alike hK9, hD9⟩⟩, hS.F ht⟩) hS.2.2 d_PA_edited_170
        · refine W.eq (g2 := F0 m 142 ls [.ref y7]) rfl ?_
          have hg7 : ∀ q ∈ fz, q ∈ (u17 ++ fz) := fun q hq => List.mem_append_right _ hq
          refine lv_astore hx hb d_PA_edited_142 hl (by decide) rfl (fun ls hl => ?_)
          have hl : lv_has ls 8 [(7, .ref y7), (6, .ref (xs.getD t0 0)), (5, .int (nI t0)), (4, .int 0), (0, .ref a), (1, .ref p1), (2, .int 2), (3, .null)] := hl
          refine lv_aload hx hb d_PA_edited_144 (lv_at hl 0 rfl) ?_
          refine lv_ifnonnull (tgt := 153) hx hb d_PA_edited_146 rfl ?_
          refine lv_aload_n hx hb d_PA_edited_153 rfl (lv_at hl 4 rfl) ?_
          refine lv_iload hx hb d_PA_edited_154 (lv_at hl 2 rfl) ?_
          refine lv_iconst (v := 1) hx hb d_PA_edited_156 (by decide) ?_
          refine lv_aload hx hb d_PA_edited_157 (lv_at hl 0 rfl) ?_
          refine lv_aload hx hb d_PA_edited_159 (lv_at hl 1 rfl) ?_
          obtain ⟨qz21, hz21⟩ := List.getElem?_of_mem (List.mem_append_right [] (hg7 _ hc0))
          refine va_get (D := (dC, dI)) (ci := 3) (v := .ref nm0) (C := R_VA) (T := T_VA) (N := 7) hx hb htb in_VA hown hK hP qz21 hz21 rfl 3 (by decide) (htb _ m_392) (fun _ h9 => h9) rfl d_PA_edited_161 ?_
          obtain ⟨kd7, tx7, nu7, nm7, pa7, dp7, cn7, hc7, hren⟩ := (hv7).renamed
          have hPc := zz_pickP (pre := []) (fz := (u17 ++ fz)) (wc := []) hP [] rfl
          have hDc := zz_pickD (pre := []) (fz := (u17 ++ fz)) (wc := []) hD [] (by decide) rfl
          have hFc := zz_free (pre := []) (fz := (u17 ++ fz)) (wc := []) hD hS hA [] rfl
          have hKc := hK.sub (tys' := []) [] rfl
          refine va_callr (va_runV (As := [.ref nm0]) (rest := [.int 1, .int (nI t0), .ref a]) ⟨hx, hb, hml, hown, htb⟩ (k_VA_named l dC dI _ y7 kd7 tx7 nu7 nm7 pa7 dp7 cn7 nm0 (u17 ++ fz) hc7) (cwV 1 htb (g_V (fun _ h => h) m_518 m_822 m_516 m_517 m_18) rfl rfl rfl (by decide +kernel) ⟨(by show 3 ≤ (20 + 2 * ss.length); omega), (by show 55 ≤ (500 + 80 * ss.length); omega)⟩) ⟨fun a U g mk q => by obtain ⟨q0, q1, qP, qK, qD⟩ := q; exact ⟨q0, q1, qP, va_K.moved (u := U) (U := U.calling g mk a) (Vm.Alike.refl U.vm) qK, qD⟩, zz_recv hK hP (ci := 3) rfl (List.mem_append_right _ hc7), fun U hU hW => ⟨rfl, by rw [hU], by rw [hU]; exact hPc, va_K.moved hW.alike hKc, hDc.weaken (fun _ _ _ _ => trivial)⟩⟩ rfl rfl hl.1 rfl (lv_room (Nat.le_of_ble_eq_true rfl)) d_PA_edited_164 ⟨(by show ((0 + (7 * ss1.length)) + 1) ≤ (7 * ss.length); omega), (by show ((0 + (97 * ss1.length)) + 7) ≤ (97 * ss.length); omega)⟩) hS (fun q _ h => hFc q h) hFc (fun u22 ra25 t H1 locs ht hvm hw24 hB hz1 hk1 hS => ?_)
          obtain ⟨hP1, hK1, hD1⟩ := hB
          rw [ht] at hP1
          have hK1 := va_K.moved hvm.symm hK1
          have hw24 : True := hw24
          obtain ⟨hP, hD⟩ := zz_join (pre := []) (fz := (u17 ++ fz)) (wc := []) (wr := []) (w1 := ([(ra25, .inr (3, [.int kd7, .ref tx7, .long nu7, .ref nm0, .ref pa7, .int dp7, .int cn7]))] ++ (u17 ++ fz))) hP hD [] [] rfl rfl (by decide) (by decide) hk1 hFc hP1 hD1
          have hK := (hK.sub (tys' := [(cB, .byte), (cO, .object "java/lang/Object")]) [0, 1] rfl).app hK1
          generalize H1 = H at hP hS ⊢
          have hP : va_P (dC, dI) vwCl ([(ra25, .inr (3, [.int kd7, .ref tx7, .long nu7, .ref nm0, .ref pa7, .int dp7, .int cn7]))] ++ (u17 ++ fz)) H := hP
          have hD : va_D A ([(ra25, .inr (3, [.int kd7, .ref tx7, .long nu7, .ref nm0, .ref pa7, .int dp7, .int cn7]))] ++ (u17 ++ fz)) := hD
          have hK : va_K (dC, dI) vwCl [(cB, .byte), (cO, .object "java/lang/Object")] s := hK
          have hP := zz_pickP (pre := [(ra25, .inr (3, [.int kd7, .ref tx7, .long nu7, .ref nm0, .ref pa7, .int dp7, .int cn7]))]) (fz := (u17 ++ fz)) (wc := [(ra25, .inr (3, [.int kd7, .ref tx7, .long nu7, .ref nm0, .ref pa7, .int dp7, .int cn7]))]) hP [0] rfl
          have hD := zz_pickD (pre := [(ra25, .inr (3, [.int kd7, .ref tx7, .long nu7, .ref nm0, .ref pa7, .int dp7, .int cn7]))]) (fz := (u17 ++ fz)) (wc := [(ra25, .inr (3, [.int kd7, .ref tx7, .long nu7, .ref nm0, .ref pa7, .int dp7, .int cn7]))]) hD [0] (by decide) rfl
          have hP : va_P (dC, dI) vwCl ([] ++ ([(ra25, .inr (3, [.int kd7, .ref tx7, .long nu7, .ref nm0, .ref pa7, .int dp7, .int cn7]))] ++ (u17 ++ fz))) _ := hP
          have hD : va_D A ([] ++ ([(ra25, .inr (3, [.int kd7, .ref tx7, .long nu7, .ref nm0, .ref pa7, .int dp7, .int cn7]))] ++ (u17 ++ fz))) := hD
          have hgr0 : ∀ q ∈ (u17 ++ fz), q ∈ ([(ra25, .inr (3, [.int kd7, .ref tx7, .long nu7, .ref nm0, .ref pa7, .int dp7, .int cn7]))] ++ (u17 ++ fz)) := fun q hq => List.mem_append_right _ hq
          have hvn := hren ([(ra25, .inr (3, [.int kd7, .ref tx7, .long nu7, .ref nm0, .ref pa7, .int dp7, .int cn7]))] ++ (u17 ++ fz)) ra25 nm0 (ns.getD t0 []) hgr0 (List.mem_append_left _ List.mem_cons_self) (((hn0.mono hg7)).mono hgr0)
          have hgr : ∀ q ∈ fz, q ∈ ([(ra25, .inr (3, [.int kd7, .ref tx7, .long nu7, .ref nm0, .ref pa7, .int dp7, .int cn7]))] ++ (u17 ++ fz)) := fun q hq => hgr0 q (hg7 q hq)
          have hPc := zz_pickP (pre := []) (fz := ([(ra25, .inr (3, [.int kd7, .ref tx7, .long nu7, .ref nm0, .ref pa7, .int dp7, .int cn7]))] ++ (u17 ++ fz))) (wc := []) hP [] rfl
          have hDc := zz_pickD (pre := []) (fz := ([(ra25, .inr (3, [.int kd7, .ref tx7, .long nu7, .ref nm0, .ref pa7, .int dp7, .int cn7]))] ++ (u17 ++ fz))) (wc := []) hD [] (by decide) rfl
          have hFc := zz_free (pre := []) (fz := ([(ra25, .inr (3, [.int kd7, .ref tx7, .long nu7, .ref nm0, .ref pa7, .int dp7, .int cn7]))] ++ (u17 ++ fz))) (wc := []) hD hS hA [] rfl
          have hKc := hK.sub (tys' := [(cB, .byte), (cO, .object "java/lang/Object")]) [0, 1] rfl
          refine va_callq (va_runV (As := [.int (nI t0), .int (nI 1), .ref ra25]) (rest := []) ⟨hx, hb, hml, hown, htb⟩ (k_VA_spliced1 l dC dI _ a d1 nn rows t0 1 ra25 (ns.getD t0 []) w7 cB cO em aK aV ([(ra25, .inr (3, [.int kd7, .ref tx7, .long nu7, .ref nm0, .ref pa7, .int dp7, .int cn7]))] ++ (u17 ++ fz)) ((hv.mono (fun q hq => hgr q hq)).up (by omega)) hk56 (by omega) (by omega) (by omega) hvn) (cwV 3 htb (g_V (fun _ h => h) m_826 m_823 m_824 m_825 m_18) rfl rfl rfl (by decide +kernel) ⟨(by show 8 ≤ (20 + 2 * ss.length); omega), (by show 196 ≤ (500 + 80 * ss.length); omega)⟩) ⟨fun a U g mk q => by obtain ⟨q0, q1, qP, qK, qD, z0⟩ := q; exact ⟨q0, q1, qP, va_K.moved (u := U) (U := U.calling g mk a) (Vm.Alike.refl U.vm) qK, qD, EX.same (U := U) (U' := U.calling g mk a) rfl z0⟩, zz_recv hK hP (ci := 3) rfl (List.mem_append_right _ (hgr _ hc)), fun U hU hW => ⟨rfl, by rw [hU], by rw [hU]; exact hPc, va_K.moved hW.alike hKc, hDc.weaken (fun _ _ _ _ => trivial), by rw [hU]; exact EX.warm hW ((hE.kept (fun a h1 h2 => hS.2.1 a h1 h2)).narrow hFc)⟩⟩ rfl rfl hl.1 rfl (lv_room (Nat.le_of_ble_eq_true rfl)) d_PA_edited_167 ⟨(by show (((0 + (7 * ss1.length)) + 1) + 6) ≤ (7 * ss.length); omega), (by show (((0 + (97 * ss1.length)) + 7) + 90) ≤ (97 * ss.length); omega)⟩) hS (fun q _ h => hFc q h) hFc (fun r27 u26 t H1 locs ht hvm hw28 hB hz1 hk1 hS => ?_)
          obtain ⟨hP1, hK1, hD1⟩ := hB
          rw [ht] at hP1
          have hK1 := va_K.moved hvm.symm hK1
          have hw28 : ∃ y8, r27 = some y8 ∧ VT cB cO em aK (d1 + 1) (u26 ++ ([(ra25, .inr (3, [.int kd7, .ref tx7, .long nu7, .ref nm0, .ref pa7, .int dp7, .int cn7]))] ++ (u17 ++ fz))) y8 nn (spc rows t0 1 [((ns.getD t0 []), w7)]) := hw28
          obtain ⟨hP, hD⟩ := zz_join (pre := []) (fz := ([(ra25, .inr (3, [.int kd7, .ref tx7, .long nu7, .ref nm0, .ref pa7, .int dp7, .int cn7]))] ++ (u17 ++ fz))) (wc := []) (wr := []) (w1 := ([] ++ (u26 ++ ([(ra25, .inr (3, [.int kd7, .ref tx7, .long nu7, .ref nm0, .ref pa7, .int dp7, .int cn7]))] ++ (u17 ++ fz))))) hP hD [] [] rfl rfl (by decide) (by decide) hk1 hFc hP1 hD1
          have hK := (hK.sub (tys' := []) [] rfl).app hK1
          generalize H1 = H at hP hS ⊢
          have hP : va_P (dC, dI) vwCl ([] ++ (u26 ++ ([(ra25, .inr (3, [.int kd7, .ref tx7, .long nu7, .ref nm0, .ref pa7, .int dp7, .int cn7]))] ++ (u17 ++ fz)))) H := hP
          have hD : va_D A ([] ++ (u26 ++ ([(ra25, .inr (3, [.int kd7, .ref tx7, .long nu7, .ref nm0, .ref pa7, .int dp7, .int cn7]))] ++ (u17 ++ fz)))) := hD
          have hK : va_K (dC, dI) vwCl [(cB, .byte), (cO, .object "java/lang/Object")] s := hK
          obtain ⟨y9, hy9, hv9⟩ := hw28
          subst hy9
          refine W.eq (g2 := F0 m 170 ls [.ref y9]) rfl ?_
          have hP := zz_permP (pre := []) (t1 := (u26 ++ ([(ra25, .inr (3, [.int kd7, .ref tx7, .long nu7, .ref nm0, .ref pa7, .int dp7, .int cn7]))] ++ (u17 ++ fz)))) (t2 := ((u26 ++ ([(ra25, .inr (3, [.int kd7, .ref tx7, .long nu7, .ref nm0, .ref pa7, .int dp7, .int cn7]))] ++ u17)) ++ fz)) hP (pm3 _ _ _ _)
          have hD := zz_permD (pre := []) (t1 := (u26 ++ ([(ra25, .inr (3, [.int kd7, .ref tx7, .long nu7, .ref nm0, .ref pa7, .int dp7, .int cn7]))] ++ (u17 ++ fz)))) (t2 := ((u26 ++ ([(ra25, .inr (3, [.int kd7, .ref tx7, .long nu7, .ref nm0, .ref pa7, .int dp7, .int cn7]))] ++ u17)) ++ fz)) hD (pm3 _ _ _ _)
          have hP9 := zz_pickP (pre := []) (fz := ((u26 ++ ([(ra25, .inr (3, [.int kd7, .ref tx7, .long nu7, .ref nm0, .ref pa7, .int dp7, .int cn7]))] ++ u17)) ++ fz)) (wc := []) hP [] rfl
          have hD9 := zz_pickD (pre := []) (fz := ((u26 ++ ([(ra25, .inr (3, [.int kd7, .ref tx7, .long nu7, .ref nm0, .ref pa7, .int dp7, .int cn7]))] ++ u17)) ++ fz)) (wc := []) hD [] (by decide) rfl
          have hK9 := hK.sub (tys' := [(cB, .byte), (cO, .object "java/lang/Object")]) [0, 1] rfl
          rw [hQ]
          refine W.widen (k := (7 * ss.length)) (n := (97 * ss.length)) ((by show (((0 + (7 * ss1.length)) + 1) + 6) ≤ (7 * ss.length); omega)) ((by show (((0 + (97 * ss1.length)) + 7) + 90) ≤ (97 * ss.length); omega)) ?_
          exact W.aret (v := .ref y9) hx hb hr (Or.inl ⟨_, rfl⟩) (Or.inr ⟨_, rfl⟩) (fun t ht hW => ⟨⟨(some y9), (u26 ++ ([(ra25, .inr (3, [.int kd7, .ref tx7, .long nu7, .ref nm0, .ref pa7, .int dp7, .int cn7]))] ++ u17)), rfl, Or.inr ⟨_, _, _, rfl, by rw [hs0, edt, if_neg hss, hm, Option.bind_some, he7]; exact congrArg some (spc_nm (fun h => by rw [hns (hhk.symm.trans h)])).symm, (hv9.mono (fun q hq => (pm3 _ _ _ _).mem_iff.mpr hq)).up (by omega)⟩, ⟨by rw [ht]; exact hP9, va_K.moved hW.alike hK9, hD9⟩⟩, hS.F ht⟩) hS.2.2 d_PA_edited_170
