set_option maxHeartbeats 1000000 in
set_option maxRecDepth 100000 in
/-- chooseSlice(value, list) -/
theorem k_SE_chooseSlice (l : Launch) (dC : Nat → ClassId) (dI : Nat → Nat → Nat) (sz : Nat) (o : Nat) (o1 : Option Int) (o2 : Option Int) (o3 : Option Int) (a : Nat) (d : Nat) (nn : List Nat) (x : Plc) (pl : Nat) (xs : List Nat) (LS : List Plc) (cB : ClassId) (cO : ClassId) (em : Nat) (aK : Nat → Nat) (aV : Nat → Nat) (lz : va_W) (fz : va_W) (hsc : SEc o 3 (aK 0) (ixI o1) (ixI o2) (ixI o3) Value.null ∈ fz) (hr1 : ∀ v8, o1 = some v8 → -999 ≤ v8 ∧ v8 ≤ 999) (hr2 : ∀ v8, o2 = some v8 → -999 ≤ v8 ∧ v8 ≤ 999) (hr3 : ∀ v8, o3 = some v8 → -999 ≤ v8 ∧ v8 ≤ 999) (hv : VT cB cO em aK (d + 1) fz a nn x.2) (hd9 : d ≤ 11) (h32 : x.2.length ≤ 32) (hal : ALc cO em pl xs lz) (hls : VLS cB cO em aK fz xs LS) (hx40 : xs.length ≤ 40) : Met l y_SE_chooseSlice ws_SE_chooseSlice ({ frames := 7, cells := (acl (xs.length + (if hdK x.2 = 5 then (slc (ksR x.2).length o1 o2 o3).map (kidL x) else []).length) - acl xs.length), slots := (asl (xs.length + (if hdK x.2 = 5 then (slc (ksR x.2).length o1 o2 o3).map (kidL x) else []).length) - asl xs.length), locals := 171 }) (va_Pc [.ref o, .ref a, .ref pl] (fun U => U.heap.size = sz ∧ va_P (dC, dI) vwCl ([] ++ (lz ++ fz)) U.heap ∧ va_K (dC, dI) vwCl [(cB, .byte), (cO, .object "java/lang/Object")] U ∧ va_D (fun _ => True) ([] ++ (lz ++ fz)) ∧ EX em aK aV (va_A ([] ++ (lz ++ fz)) sz) U U.heap)) (va_Qv (fun (u : va_W × List Nat) => ALc cO em pl (xs ++ u.2) u.1 ∧ VLS cB cO em aK fz u.2 (if hdK x.2 = 5 then (slc (ksR x.2).length o1 o2 o3).map (kidL x) else [])) (fun u t => va_P (dC, dI) vwCl ([] ++ (u.1 ++ fz)) t.heap ∧ va_K (dC, dI) vwCl [(cB, .byte), (cO, .object "java/lang/Object")] t ∧ va_D (va_A ([] ++ (lz ++ fz)) sz) ([] ++ (u.1 ++ fz))) (va_A ([] ++ (lz ++ fz)) sz)) (acl (xs.length + (if hdK x.2 = 5 then (slc (ksR x.2).length o1 o2 o3).map (kidL x) else []).length) - acl xs.length) (asl (xs.length + (if hdK x.2 = 5 then (slc (ksR x.2).length o1 o2 o3).map (kidL x) else []).length) - asl xs.length) (va_A ([] ++ (lz ++ fz)) sz) := by
  refine Met.ofW (cc := c_SE_chooseSlice) (maxL := 7) (ret := none) (by decide) rfl ?_
  intro p e s m args below meth c s₁ B hml hv
  obtain ⟨hargs, hsz, hP, hK, hD0, hE⟩ := hv
  rw [show entryFrame m args 7 = entryFrame m ([.ref o, .ref a, .ref pl]).toArray 7 by rw [hargs]]
  have hx := B.exec
  have hb := B.bytes
  have hr := B.returns
  have hts := atoms_spec (ws := ws_SE_chooseSlice) B.pre
  have htb := fun w (h : w ∈ TBL) => hts w (List.mem_cons_of_mem _ h)
  have hown : s.vm.findClass R_SE = some m.cls := findClass_of_methodNamed B.named
  have hlocks := B.notSynchronized
  subst hsz
  have hD := hD0.self (sz := s.heap.size)
  generalize hAe : va_A ([] ++ (lz ++ fz)) s.heap.size = A at hD hE ⊢
  have hA : ∀ q : Nat, s.heap.size ≤ q → A q := fun q h => by rw [← hAe]; exact Or.inr h
  have hS : va_S A s.heap s.heap [] := va_S.rf
  have hP : va_P (dC, dI) vwCl ([] ++ (lz ++ fz)) s.heap := hP
  have hl := lv_entry ([.ref o, .ref a, .ref pl]) (n := 7) (Nat.le_of_ble_eq_true rfl)
  rw [lg_entry_eq]
  generalize (lg_sl ([.ref o, .ref a, .ref pl]) ++ List.replicate (7 - (lg_sl ([.ref o, .ref a, .ref pl])).length) Slot.unset).toArray = ls at hl ⊢
  replace hl : lv_has ls 7 [(0, .ref o), (1, .ref a), (2, .ref pl)] := hl
  refine zz_nQ (fun Q hQ => ?_)
  obtain ⟨kd, tx, nu, nm, pa, dp, cn, tt, kk, num, rt, ks, ns, hc, htx, hnm, hkl, hhd, hnl, hrl, hkf, hvl, hhk, hns, hdp, hcn, hrw, h160⟩ := (id hv : VT cB cO em aK (d + 1) fz a nn x.2).opn
  have hk32 := ks_32 hv h32
  have hgr : ∀ q ∈ fz, q ∈ (lz ++ fz) := fun q hq => List.mem_append_right _ hq
  have hkl8 := hkl.mono hgr
  refine lv_aload_n hx hb d_SE_chooseSlice_0 rfl (lv_at hl 0 rfl) ?_
  obtain ⟨qz21, hz21⟩ := List.getElem?_of_mem (List.mem_append_right [] (hgr _ hsc))
  refine va_get (D := (dC, dI)) (ci := 10) (v := .int (ixI o3)) (C := R_SE) (T := T_SE) (N := 6) hx hb htb in_SE hown hK hP qz21 hz21 rfl 4 (by decide) (htb _ m_903) (fun _ h9 => h9) rfl d_SE_chooseSlice_1 ?_
  refine lv_sipush (v := 1000) hx hb d_SE_chooseSlice_4 (by decide) ?_
  refine lv_icmp_ne (tgt := 14) hx hb d_SE_chooseSlice_7 rfl (fun h1 => ?_) (fun h1 => ?_)
  · obtain ⟨v3, hv3⟩ := ixI_no h1
    refine lv_aload_n hx hb d_SE_chooseSlice_14 rfl (lv_at hl 0 rfl) ?_
    obtain ⟨qz22, hz22⟩ := List.getElem?_of_mem (List.mem_append_right [] (hgr _ hsc))
    refine va_get (D := (dC, dI)) (ci := 10) (v := .int (ixI o3)) (C := R_SE) (T := T_SE) (N := 6) hx hb htb in_SE hown hK hP qz22 hz22 rfl 4 (by decide) (htb _ m_903) (fun _ h9 => h9) rfl d_SE_chooseSlice_15 ?_
    refine W.eq (congrArg (fun z => F0 m 18 ls (.int z :: [])) (by rw [hv3]; rfl : (ixI o3) = iI (o3.getD 1))) ?_
    have hp3 := rng_o hr3
    refine lv_istore_n hx hb d_SE_chooseSlice_18 rfl hl (by decide) rfl (fun ls hl => ?_)
    replace hl : lv_has ls 7 [(3, .int (iI (o3.getD 1))), (0, .ref o), (1, .ref a), (2, .ref pl)] := hl
    refine lv_aload_n hx hb d_SE_chooseSlice_19 rfl (lv_at hl 2 rfl) ?_
    obtain ⟨qz23, hz23⟩ := List.getElem?_of_mem (List.mem_append_right [] (hgr _ hc))
    refine va_get (D := (dC, dI)) (ci := 3) (v := .int kd) (C := R_VA) (T := T_VA) (N := 7) hx hb htb in_VA hown hK hP qz23 hz23 rfl 0 (by decide) (htb _ m_383) (fun _ h9 => h9) rfl d_SE_chooseSlice_20 ?_
    refine lv_iconst (v := 3) hx hb d_SE_chooseSlice_23 (by decide) ?_
    refine lv_icmp_ne (tgt := 31) hx hb d_SE_chooseSlice_24 rfl (fun h5 => ?_) (fun h5 => ?_)
    · have h5 : ¬ hdK x.2 = 5 := fun h => h5 ((hhd.kind.2.1).mpr (hhk.symm.trans h))
      have hsl0 : (if hdK x.2 = 5 then (slc (ksR x.2).length o1 o2 o3).map (kidL x) else []) = [] := if_neg h5
      have hP9 := zz_pickP (pre := []) (fz := (lz ++ fz)) (wc := []) hP [] rfl
      have hD9 := zz_pickD (pre := []) (fz := (lz ++ fz)) (wc := []) hD [] (by decide) rfl
      have hK9 := hK.sub (tys' := [(cB, .byte), (cO, .object "java/lang/Object")]) [0, 1] rfl
      rw [hQ]
      refine W.widen (k := (acl (xs.length + (if hdK x.2 = 5 then (slc (ksR x.2).length o1 o2 o3).map (kidL x) else []).length) - acl xs.length)) (n := (asl (xs.length + (if hdK x.2 = 5 then (slc (ksR x.2).length o1 o2 o3).map (kidL x) else []).length) - asl xs.length)) ((by show 0 ≤ (acl (xs.length + (if hdK x.2 = 5 then (slc (ksR x.2).length o1 o2 o3).map (kidL x) else []).length) - acl xs.length); omega)) ((by show 0 ≤ (asl (xs.length + (if hdK x.2 = 5 then (slc (ksR x.2).length o1 o2 o3).map (kidL x) else []).length) - asl xs.length); omega)) ?_
      exact W.vret hx hb hr (fun t ht hW => ⟨⟨(lz, ([] : List Nat)), rfl, ⟨by rw [List.append_nil]; exact hal, by rw [hsl0]; exact VLS.nil⟩, ⟨by rw [ht]; exact hP9, va_K.moved hW.alike hK9, hD9⟩⟩, hS.F ht⟩) hS.2.2 d_SE_chooseSlice_31
    · have h5 : hdK x.2 = 5 := hhk.trans ((hhd.kind.2.1).mp h5)
      refine lv_iload_n hx hb d_SE_chooseSlice_27 rfl (lv_at hl 0 rfl) ?_
      refine lv_if_ne (tgt := 32) hx hb d_SE_chooseSlice_28 rfl (fun h6 => ?_) (fun h6 => ?_)
      · have h6 : ¬ o3.getD 1 = 0 := iI_ne0 (by omega) (by omega) (id h6)
        refine lv_aload_n hx hb d_SE_chooseSlice_32 rfl (lv_at hl 2 rfl) ?_
        obtain ⟨qz24, hz24⟩ := List.getElem?_of_mem (List.mem_append_right [] (hgr _ hc))
        refine va_get (D := (dC, dI)) (ci := 3) (v := .ref pa) (C := R_VA) (T := T_VA) (N := 7) hx hb htb in_VA hown hK hP qz24 hz24 rfl 4 (by decide) (htb _ m_398) (fun _ h9 => h9) rfl d_SE_chooseSlice_33 ?_
        have hPc : va_P (dC, dI) vwCl ([] ++ (lz ++ fz)) _ := zz_tlP (pre := []) (tl := (lz ++ fz)) hP
        have hKc := hK.sub (tys' := []) [] rfl
        refine vp_callSi (W.runV (As := []) (rest := []) ⟨hx, hb, hml, hown, htb⟩ (z_AL_size l dC dI pa ks cO em (lz ++ fz) hkl8) (cwV 0 htb (g_V (fun _ h => h) m_486 m_1018 m_484 m_485 m_8) rfl rfl rfl (by decide +kernel) ⟨Nat.le_of_ble_eq_true rfl, Nat.le_of_ble_eq_true rfl⟩) ⟨fun a U g mk q => by obtain ⟨q0, qP, qK⟩ := q; exact ⟨q0, qP, va_K.moved (u := U) (U := U.calling g mk a) (Vm.Alike.refl U.vm) qK⟩, (hkl8).recv hK hP (fun q hq => List.mem_append_right _ hq), fun U hU hW => ⟨rfl, by rw [hU]; exact hPc, va_K.moved hW.alike hKc⟩⟩ rfl rfl hl.1 rfl (lv_room (Nat.le_of_ble_eq_true rfl)) d_SE_chooseSlice_36 ⟨(by show 0 ≤ (acl (xs.length + (if hdK x.2 = 5 then (slc (ksR x.2).length o1 o2 o3).map (kidL x) else []).length) - acl xs.length); omega), (by show 0 ≤ (asl (xs.length + (if hdK x.2 = 5 then (slc (ksR x.2).length o1 o2 o3).map (kidL x) else []).length) - asl xs.length); omega)⟩) (fun r25 hw26 => ?_)
        replace hw26 : r25 = nI ks.length := hw26
        clear hPc hKc
        obtain rfl := hw26
        have hsl1 : (if hdK x.2 = 5 then (slc (ksR x.2).length o1 o2 o3).map (kidL x) else []) = (slc ks.length o1 o2 (some (o3.getD 1))).map (kidL x) := by rw [if_pos h5, slc_c, hrl]
        refine lv_istore hx hb d_SE_chooseSlice_39 hl (by decide) rfl (fun ls hl => ?_)
        replace hl : lv_has ls 7 [(4, .int (nI ks.length)), (3, .int (iI (o3.getD 1))), (0, .ref o), (1, .ref a), (2, .ref pl)] := hl
        refine lv_iload_n hx hb d_SE_chooseSlice_41 rfl (lv_at hl 1 rfl) ?_
        refine lv_if_le (tgt := 112) hx hb d_SE_chooseSlice_42 rfl (fun h7 => ?_) (fun h7 => ?_)
        · have hpp : o3.getD 1 < 0 := by have := (iI_leI (y := 0) (by omega) (by omega) (by decide) (by decide)).mp h7; omega
          have hslc : slc ks.length o1 o2 (some (o3.getD 1)) = stU (ks.length + 1) (bnd o1 ks.length (-1) ((ks.length : Int) - 1) ((ks.length : Int) - 1)) (bnd o2 ks.length (-1) ((ks.length : Int) - 1) (-1)) (o3.getD 1) := slc_neg hpp
          have hfr : (-1) ≤ (bnd o1 ks.length (-1) ((ks.length : Int) - 1) ((ks.length : Int) - 1)) ∧ (bnd o1 ks.length (-1) ((ks.length : Int) - 1) ((ks.length : Int) - 1)) ≤ ((ks.length : Int) - 1) := by unfold bnd; split <;> constructor <;> omega
          have hto : (-1) ≤ (bnd o2 ks.length (-1) ((ks.length : Int) - 1) (-1)) ∧ (bnd o2 ks.length (-1) ((ks.length : Int) - 1) (-1)) ≤ ((ks.length : Int) - 1) := by unfold bnd; split <;> constructor <;> omega
          have hnm1 : nI ks.length - 1 = iI ((ks.length : Int) - 1) := by rw [← iI_nat]; show iI _ - iI 1 = _; exact (Int32.ofInt_sub ..).symm
          refine lv_aload_n hx hb d_SE_chooseSlice_112 rfl (lv_at hl 2 rfl) ?_
          obtain ⟨qz27, hz27⟩ := List.getElem?_of_mem (List.mem_append_right [] (hgr _ hsc))
          refine va_get (D := (dC, dI)) (ci := 10) (v := .int (ixI o2)) (C := R_SE) (T := T_SE) (N := 6) hx hb htb in_SE hown hK hP qz27 hz27 rfl 3 (by decide) (htb _ m_902) (fun _ h9 => h9) rfl d_SE_chooseSlice_113 ?_
          refine lv_iload hx hb d_SE_chooseSlice_116 (lv_at hl 0 rfl) ?_
          refine lv_iconst (v := (-1)) hx hb d_SE_chooseSlice_118 (by decide) ?_
          refine lv_iload hx hb d_SE_chooseSlice_119 (lv_at hl 0 rfl) ?_
          refine lv_iconst (v := 1) hx hb d_SE_chooseSlice_121 (by decide) ?_
          refine lv_isub hx hb d_SE_chooseSlice_122 ?_
          refine lv_iconst (v := (-1)) hx hb d_SE_chooseSlice_123 (by decide) ?_
          refine W.eq (g2 := F0 m 124 ls [.int (iI (-1)), .int (iI ((ks.length : Int) - 1)), .int (iI (-1)), .int (nI ks.length), .int (ixI o2)]) (by rw [← hnm1]; rfl) ?_
          have hPc : va_P (dC, dI) vwCl [] _ := hP.sub (ws' := []) [] rfl
          have hKc := hK.sub (tys' := []) [] rfl
          refine vp_callSi (W.runS (As := [.int (ixI o2), .int (nI ks.length), .int (iI (-1)), .int (iI ((ks.length : Int) - 1)), .int (iI (-1))]) (rest := []) ⟨hx, hb, hml, hown, htb⟩ (q_SE_bound l dC dI o2 ks.length (-1) ((ks.length : Int) - 1) (-1) hr2 (by omega) (by omega) (by omega) (by omega) (by omega)) (va_cwS 5 htb (g_S (fun _ h => h) m_1021 m_1019 m_1020 m_26) rfl rfl rfl (by decide +kernel) ⟨Nat.le_of_ble_eq_true rfl, Nat.le_of_ble_eq_true rfl⟩) ⟨fun a U g mk q => by obtain ⟨q0, qP, qK⟩ := q; exact ⟨q0, qP, va_K.moved (u := U) (U := U.calling g mk a) (Vm.Alike.refl U.vm) qK⟩, fun U hU hW => ⟨rfl, by rw [hU]; exact hPc, va_K.moved hW.alike hKc⟩⟩ rfl rfl hl.1 rfl (lv_room (Nat.le_of_ble_eq_true rfl)) d_SE_chooseSlice_124 ⟨(by show 0 ≤ (acl (xs.length + (if hdK x.2 = 5 then (slc (ksR x.2).length o1 o2 o3).map (kidL x) else []).length) - acl xs.length); omega), (by show 0 ≤ (asl (xs.length + (if hdK x.2 = 5 then (slc (ksR x.2).length o1 o2 o3).map (kidL x) else []).length) - asl xs.length); omega)⟩) (fun r28 hw29 => ?_)
          replace hw29 : r28 = iI (bnd o2 ks.length (-1) ((ks.length : Int) - 1) (-1)) := hw29
          clear hPc hKc
          obtain rfl := hw29
          refine lv_istore hx hb d_SE_chooseSlice_127 hl (by decide) rfl (fun ls hl => ?_)
          replace hl : lv_has ls 7 [(5, .int (iI (bnd o2 ks.length (-1) ((ks.length : Int) - 1) (-1)))), (4, .int (nI ks.length)), (3, .int (iI (o3.getD 1))), (0, .ref o), (1, .ref a), (2, .ref pl)] := hl
          refine lv_aload_n hx hb d_SE_chooseSlice_129 rfl (lv_at hl 3 rfl) ?_
          obtain ⟨qz30, hz30⟩ := List.getElem?_of_mem (List.mem_append_right [] (hgr _ hsc))
          refine va_get (D := (dC, dI)) (ci := 10) (v := .int (ixI o1)) (C := R_SE) (T := T_SE) (N := 6) hx hb htb in_SE hown hK hP qz30 hz30 rfl 2 (by decide) (htb _ m_901) (fun _ h9 => h9) rfl d_SE_chooseSlice_130 ?_
          refine lv_iload hx hb d_SE_chooseSlice_133 (lv_at hl 1 rfl) ?_
          refine lv_iconst (v := (-1)) hx hb d_SE_chooseSlice_135 (by decide) ?_
          refine lv_iload hx hb d_SE_chooseSlice_136 (lv_at hl 1 rfl) ?_
          refine lv_iconst (v := 1) hx hb d_SE_chooseSlice_138 (by decide) ?_
          refine lv_isub hx hb d_SE_chooseSlice_139 ?_
          refine lv_iload hx hb d_SE_chooseSlice_140 (lv_at hl 1 rfl) ?_
          refine lv_iconst (v := 1) hx hb d_SE_chooseSlice_142 (by decide) ?_
          refine lv_isub hx hb d_SE_chooseSlice_143 ?_
          refine W.eq (g2 := F0 m 144 ls [.int (iI ((ks.length : Int) - 1)), .int (iI ((ks.length : Int) - 1)), .int (iI (-1)), .int (nI ks.length), .int (ixI o1)]) (by rw [← hnm1]; rfl) ?_
          have hPc : va_P (dC, dI) vwCl [] _ := hP.sub (ws' := []) [] rfl
          have hKc := hK.sub (tys' := []) [] rfl
          refine vp_callSi (W.runS (As := [.int (ixI o1), .int (nI ks.length), .int (iI (-1)), .int (iI ((ks.length : Int) - 1)), .int (iI ((ks.length : Int) - 1))]) (rest := []) ⟨hx, hb, hml, hown, htb⟩ (q_SE_bound l dC dI o1 ks.length (-1) ((ks.length : Int) - 1) ((ks.length : Int) - 1) hr1 (by omega) (by omega) (by omega) (by omega) (by omega)) (va_cwS 5 htb (g_S (fun _ h => h) m_1021 m_1019 m_1020 m_26) rfl rfl rfl (by decide +kernel) ⟨Nat.le_of_ble_eq_true rfl, Nat.le_of_ble_eq_true rfl⟩) ⟨fun a U g mk q => by obtain ⟨q0, qP, qK⟩ := q; exact ⟨q0, qP, va_K.moved (u := U) (U := U.calling g mk a) (Vm.Alike.refl U.vm) qK⟩, fun U hU hW => ⟨rfl, by rw [hU]; exact hPc, va_K.moved hW.alike hKc⟩⟩ rfl rfl hl.1 rfl (lv_room (Nat.le_of_ble_eq_true rfl)) d_SE_chooseSlice_144 ⟨(by show 0 ≤ (acl (xs.length + (if hdK x.2 = 5 then (slc (ksR x.2).length o1 o2 o3).map (kidL x) else []).length) - acl xs.length); omega), (by show 0 ≤ (asl (xs.length + (if hdK x.2 = 5 then (slc (ksR x.2).length o1 o2 o3).map (kidL x) else []).length) - asl xs.length); omega)⟩) (fun r31 hw32 => ?_)
          replace hw32 : r31 = iI (bnd o1 ks.length (-1) ((ks.length : Int) - 1) ((ks.length : Int) - 1)) := hw32
          clear hPc hKc
          obtain rfl := hw32
          refine lv_istore hx hb d_SE_chooseSlice_147 hl (by decide) rfl (fun ls hl => ?_)
          replace hl : lv_has ls 7 [(6, .int (iI (bnd o1 ks.length (-1) ((ks.length : Int) - 1) ((ks.length : Int) - 1)))), (5, .int (iI (bnd o2 ks.length (-1) ((ks.length : Int) - 1) (-1)))), (4, .int (nI ks.length)), (3, .int (iI (o3.getD 1))), (0, .ref o), (1, .ref a), (2, .ref pl)] := hl
          have hloop : ∀ (k9 : Nat) (jj : Int) (ff : Nat) (dn : List Nat) (lz1 : va_W) (x1 : List Nat) (H : Heap) (locs : List Loc) (ls : Array Slot), (jj - (bnd o2 ks.length (-1) ((ks.length : Int) - 1) (-1))).toNat = k9 → (jj < (ks.length : Int)) → (-2000 ≤ jj) → ((jj - (bnd o2 ks.length (-1) ((ks.length : Int) - 1) (-1))).toNat < ff) → (stU (ks.length + 1) (bnd o1 ks.length (-1) ((ks.length : Int) - 1) ((ks.length : Int) - 1)) (bnd o2 ks.length (-1) ((ks.length : Int) - 1) (-1)) (o3.getD 1) = dn ++ stU ff jj (bnd o2 ks.length (-1) ((ks.length : Int) - 1) (-1)) (o3.getD 1)) → (ALc cO em pl (xs ++ x1) lz1) → (VLS cB cO em aK fz x1 (dn.map (kidL x))) → lv_has ls 7 [(6, .int (iI jj)), (5, .int (iI (bnd o2 ks.length (-1) ((ks.length : Int) - 1) (-1)))), (3, .int (iI (o3.getD 1))), (2, .ref pl), (1, .ref a), (0, .ref o)] → va_P (dC, dI) vwCl ([] ++ (lz1 ++ fz)) H → va_D A ([] ++ (lz1 ++ fz)) → va_S A s.heap H locs → W p l e (headSpec ws_SE_chooseSlice ({ frames := 7, cells := (acl (xs.length + (if hdK x.2 = 5 then (slc (ksR x.2).length o1 o2 o3).map (kidL x) else []).length) - acl xs.length), slots := (asl (xs.length + (if hdK x.2 = 5 then (slc (ksR x.2).length o1 o2 o3).map (kidL x) else []).length) - asl xs.length), locals := 171 })).room s m args below meth c H locs (acl (xs.length + x1.length) - acl xs.length) (asl (xs.length + x1.length) - asl xs.length) Q (F0 m 149 ls []) := by
            intro k9
            induction k9 using Nat.strongRecOn with
            | ind k9 ih =>
              intro jj ff dn lz1 x1 H locs ls hk9 hk1 hk2 hff hst hiL hi6 hl hP hD hS
              have hlx1 : x1.length = dn.length := by have := hi6.1; rw [List.length_map] at this; exact this.symm
              have hdl : dn.length ≤ (slc ks.length o1 o2 (some (o3.getD 1))).length := by rw [hslc, hst, List.length_append]; omega
              have hsll := slc_len (n := ks.length) (a := o1) (b := o2) (c := some (o3.getD 1))
              have hSL : (if hdK x.2 = 5 then (slc (ksR x.2).length o1 o2 o3).map (kidL x) else []).length = (slc ks.length o1 o2 (some (o3.getD 1))).length := by rw [hsl1, List.length_map]
              have hup := ac_up (xs.length + x1.length) (xs.length + (if hdK x.2 = 5 then (slc (ksR x.2).length o1 o2 o3).map (kidL x) else []).length) (by omega) (by omega)
              have hgr1 : ∀ q ∈ fz, q ∈ (lz1 ++ fz) := fun q hq => List.mem_append_right _ hq
              have hkl9 := hkl.mono hgr1
              refine lv_iload hx hb d_SE_chooseSlice_149 (lv_at hl 0 rfl) ?_
              refine lv_iload hx hb d_SE_chooseSlice_151 (lv_at hl 1 rfl) ?_
              refine lv_icmp_le (tgt := 182) hx hb d_SE_chooseSlice_153 rfl (fun h7 => ?_) (fun h7 => ?_)
              · have h7 : jj ≤ (bnd o2 ks.length (-1) ((ks.length : Int) - 1) (-1)) := (iI_leI (by omega) (by omega) (by omega) (by omega)).mp h7
                have hnc : ¬ (if 0 < o3.getD 1 then jj < (bnd o2 ks.length (-1) ((ks.length : Int) - 1) (-1)) else (bnd o2 ks.length (-1) ((ks.length : Int) - 1) (-1)) < jj) := by rw [if_neg (by omega)]; omega
                rw [stU_no hnc, List.append_nil] at hst
                have hP9 := zz_pickP (pre := []) (fz := (lz1 ++ fz)) (wc := []) hP [] rfl
                have hD9 := zz_pickD (pre := []) (fz := (lz1 ++ fz)) (wc := []) hD [] (by decide) rfl
                have hK9 := hK.sub (tys' := [(cB, .byte), (cO, .object "java/lang/Object")]) [0, 1] rfl
                rw [hQ]
                refine W.widen (k := (acl (xs.length + (if hdK x.2 = 5 then (slc (ksR x.2).length o1 o2 o3).map (kidL x) else []).length) - acl xs.length)) (n := (asl (xs.length + (if hdK x.2 = 5 then (slc (ksR x.2).length o1 o2 o3).map (kidL x) else []).length) - asl xs.length)) ((by show (acl (xs.length + x1.length) - acl xs.length) ≤ (acl (xs.length + (if hdK x.2 = 5 then (slc (ksR x.2).length o1 o2 o3).map (kidL x) else []).length) - acl xs.length); omega)) ((by show (asl (xs.length + x1.length) - asl xs.length) ≤ (asl (xs.length + (if hdK x.2 = 5 then (slc (ksR x.2).length o1 o2 o3).map (kidL x) else []).length) - asl xs.length); omega)) ?_
                exact W.vret hx hb hr (fun t ht hW => ⟨⟨(lz1, x1), rfl, ⟨hiL, by rw [hsl1, hslc, hst]; exact hi6⟩, ⟨by rw [ht]; exact hP9, va_K.moved hW.alike hK9, hD9⟩⟩, hS.F ht⟩) hS.2.2 d_SE_chooseSlice_182
              · have h7 : (bnd o2 ks.length (-1) ((ks.length : Int) - 1) (-1)) < jj := Int.not_le.mp (fun h => h7 ((iI_leI (by omega) (by omega) (by omega) (by omega)).mpr h))
                have hcc : (if 0 < o3.getD 1 then jj < (bnd o2 ks.length (-1) ((ks.length : Int) - 1) (-1)) else (bnd o2 ks.length (-1) ((ks.length : Int) - 1) (-1)) < jj) := by rw [if_neg (by omega)]; omega
                obtain ⟨f2, rfl⟩ : ∃ f2, ff = f2 + 1 := ⟨ff - 1, by omega⟩
                rw [stU_go hcc] at hst
                have hdl2 : dn.length + 1 ≤ (slc ks.length o1 o2 (some (o3.getD 1))).length := by rw [hslc, hst, List.length_append, List.length_cons]; omega
                have hup2 := ac_up (xs.length + x1.length + 1) (xs.length + (if hdK x.2 = 5 then (slc (ksR x.2).length o1 o2 o3).map (kidL x) else []).length) (by omega) (by omega)
                obtain ⟨jn, hjn⟩ := Int.eq_ofNat_of_zero_le (show 0 ≤ jj by omega)
                have hjl : jn < ks.length := by omega
                have hvt := hvl jn hjl
                obtain ⟨kd0, tx0, nu0, nm0, pa0, dp0, cn0, hc0, hn0⟩ := hvt.cellN
                refine lv_aload_n hx hb d_SE_chooseSlice_156 rfl (lv_at hl 3 rfl) ?_
                refine lv_aload_n hx hb d_SE_chooseSlice_157 rfl (lv_at hl 4 rfl) ?_
                obtain ⟨qz33, hz33⟩ := List.getElem?_of_mem (List.mem_append_right [] (hgr1 _ hc))
                refine va_get (D := (dC, dI)) (ci := 3) (v := .ref pa) (C := R_VA) (T := T_VA) (N := 7) hx hb htb in_VA hown hK hP qz33 hz33 rfl 4 (by decide) (htb _ m_398) (fun _ h9 => h9) rfl d_SE_chooseSlice_158 ?_
                refine lv_iload hx hb d_SE_chooseSlice_161 (lv_at hl 0 rfl) ?_
                refine W.eq (congrArg (fun z => F0 m 163 ls (.int z :: [.ref pa, .ref pl])) (by rw [hjn]; exact iI_nat jn : (iI jj) = nI jn)) ?_
                have hPc : va_P (dC, dI) vwCl ([] ++ (lz1 ++ fz)) _ := zz_tlP (pre := []) (tl := (lz1 ++ fz)) hP
                have hKc := hK.sub (tys' := [(cO, .object "java/lang/Object")]) [1] rfl
                refine va_csq (W.runV (As := [.int (nI jn)]) (rest := [.ref pl]) ⟨hx, hb, hml, hown, htb⟩ (z_AL_get l dC dI pa ks cO em jn (lz1 ++ fz) hkl9 hjl) (cwV 1 htb (g_V (fun _ h => h) m_490 m_1024 m_488 m_489 m_8) rfl rfl rfl (by decide +kernel) ⟨Nat.le_of_ble_eq_true rfl, Nat.le_of_ble_eq_true rfl⟩) ⟨fun a U g mk q => by obtain ⟨q0, qP, qK⟩ := q; exact ⟨q0, qP, va_K.moved (u := U) (U := U.calling g mk a) (Vm.Alike.refl U.vm) qK⟩, (hkl9).recv hK hP (fun q hq => List.mem_append_right _ hq), fun U hU hW => ⟨rfl, by rw [hU]; exact hPc, va_K.moved hW.alike hKc⟩⟩ rfl rfl hl.1 rfl (lv_room (Nat.le_of_ble_eq_true rfl)) d_SE_chooseSlice_163 ⟨(by show (acl (xs.length + x1.length) - acl xs.length) ≤ (acl (xs.length + (if hdK x.2 = 5 then (slc (ksR x.2).length o1 o2 o3).map (kidL x) else []).length) - acl xs.length); omega), (by show (asl (xs.length + x1.length) - asl xs.length) ≤ (asl (xs.length + (if hdK x.2 = 5 then (slc (ksR x.2).length o1 o2 o3).map (kidL x) else []).length) - asl xs.length); omega)⟩) (fun r34 hw35 => ?_)
                replace hw35 : r34 = some (ks.getD jn 0) := hw35
                clear hPc hKc
                obtain rfl := hw35
                refine W.eq (g2 := F0 m 166 ls [.ref (ks.getD jn 0), .ref pl]) rfl ?_
                refine va_castY (C := "PatchStore$Value") hx hb hown (htb _ m_1025) (nw_14 hE) (zz_recv hK hP (ci := 3) rfl (List.mem_append_right _ (hgr1 _ hc0))) d_SE_chooseSlice_166 ?_
                have hac1 := ac_mono (xs.length + x1.length) (by omega)
                have hau := ac_up xs.length (xs.length + x1.length) (by omega) (by omega)
                have hlx : (xs ++ x1).length = xs.length + x1.length := List.length_append
                rw [← hlx] at hac1 hau
                have hax0 : acl (xs.length + x1.length) = acl (xs ++ x1).length := by rw [hlx]
                have hay0 : asl (xs.length + x1.length) = asl (xs ++ x1).length := by rw [hlx]
                have hax2 : acl (xs.length + x1.length + 1) = acl ((xs ++ x1).length + 1) := by rw [hlx]
                have hay2 : asl (xs.length + x1.length + 1) = asl ((xs ++ x1).length + 1) := by rw [hlx]
                have hPc := zz_pickP (pre := []) (fz := (lz1 ++ fz)) (wc := []) hP [] rfl
                have hDc := zz_pickD (pre := []) (fz := (lz1 ++ fz)) (wc := []) hD [] (by decide) rfl
                have hFc := zz_free (pre := []) (fz := (lz1 ++ fz)) (wc := []) hD hS hA [] rfl
                have hKc := hK.sub (tys' := [(cO, .object "java/lang/Object")]) [1] rfl
                refine va_calli (va_runV (As := [.ref (ks.getD jn 0)]) (rest := []) ⟨hx, hb, hml, hown, htb⟩ (k_AL_add l dC dI _ pl (xs ++ x1) cO 3 (ks.getD jn 0) em aK aV lz1 fz Oci3 hiL ((hls.cat hi6).vin) ((hvt).vin) (by rw [List.length_append]; omega)) (cwV 1 htb (g_V (fun _ h => h) m_525 m_1026 m_523 m_524 m_8) rfl rfl rfl (by decide +kernel) ⟨Nat.le_of_ble_eq_true rfl, Nat.le_of_ble_eq_true rfl⟩) ⟨fun a U g mk q => by obtain ⟨q0, q1, qP, qK, qD, z0⟩ := q; exact ⟨q0, q1, qP, va_K.moved (u := U) (U := U.calling g mk a) (Vm.Alike.refl U.vm) qK, qD, EX.same (U := U) (U' := U.calling g mk a) rfl z0⟩, (hiL.frozen).recv hK hP (fun q hq => List.mem_append_right _ (List.mem_append_left _ hq)), fun U hU hW => ⟨rfl, by rw [hU], by rw [hU]; exact hPc, va_K.moved hW.alike hKc, hDc.weaken (fun _ _ _ _ => trivial), by rw [hU]; exact EX.warm hW ((hE.kept (fun a h1 h2 => hS.2.1 a h1 h2)).narrow hFc)⟩⟩ rfl rfl hl.1 rfl (lv_room (Nat.le_of_ble_eq_true rfl)) d_SE_chooseSlice_169 ⟨(by show ((acl (xs.length + x1.length) - acl xs.length) + (acl ((xs ++ x1).length + 1) - acl (xs ++ x1).length)) ≤ (acl (xs.length + (if hdK x.2 = 5 then (slc (ksR x.2).length o1 o2 o3).map (kidL x) else []).length) - acl xs.length); omega), (by show ((asl (xs.length + x1.length) - asl xs.length) + (asl ((xs ++ x1).length + 1) - asl (xs ++ x1).length)) ≤ (asl (xs.length + (if hdK x.2 = 5 then (slc (ksR x.2).length o1 o2 o3).map (kidL x) else []).length) - asl xs.length); omega)⟩) hS (fun q _ h => hFc q h) hFc (fun r37 u36 t H1 locs ht hvm hw38 hB hz1 hk1 hS => ?_)
                obtain ⟨hP1, hK1, hD1⟩ := hB
                rw [ht] at hP1
                have hK1 := va_K.moved hvm.symm hK1
                replace hw38 : ALc cO em pl ((xs ++ x1) ++ [(ks.getD jn 0)]) u36 := hw38
                obtain ⟨hP, hD⟩ := zz_join (pre := []) (fz := (lz1 ++ fz)) (wc := []) (wr := []) (w1 := ([] ++ (u36 ++ fz))) hP hD [] [] rfl rfl (by decide) (by decide) hk1 hFc hP1 hD1
                have hK := (hK.sub (tys' := [(cB, .byte)]) [0] rfl).app hK1
                generalize H1 = H at hP hS ⊢
                replace hP : va_P (dC, dI) vwCl ([] ++ (u36 ++ fz)) H := hP
                replace hD : va_D A ([] ++ (u36 ++ fz)) := hD
                replace hK : va_K (dC, dI) vwCl [(cB, .byte), (cO, .object "java/lang/Object")] s := hK
                clear hPc hDc hFc hKc hP1 hD1 hK1 hk1 hz1 ht hvm
                have hal9 : ALc cO em pl (xs ++ (x1 ++ [(ks.getD jn 0)])) u36 := by rw [← List.append_assoc]; exact hw38
                have hxl : (x1 ++ [(ks.getD jn 0)]).length = x1.length + 1 := by simp
                have hax : acl (xs.length + (x1 ++ [(ks.getD jn 0)]).length) = acl ((xs ++ x1).length + 1) := by rw [hxl, hlx]; rfl
                have hay : asl (xs.length + (x1 ++ [(ks.getD jn 0)]).length) = asl ((xs ++ x1).length + 1) := by rw [hxl, hlx]; rfl
                refine lv_pop hx hb d_SE_chooseSlice_172 rfl ?_
                refine lv_iload hx hb d_SE_chooseSlice_173 (lv_at hl 0 rfl) ?_
                refine lv_iload_n hx hb d_SE_chooseSlice_175 rfl (lv_at hl 2 rfl) ?_
                refine lv_iadd hx hb d_SE_chooseSlice_176 ?_
                refine W.eq (congrArg (fun z => F0 m 177 ls (.int z :: [])) (iI_add _ _ : ((iI jj) + (iI (o3.getD 1))) = iI (jj + o3.getD 1))) ?_
                refine lv_istore hx hb d_SE_chooseSlice_177 hl (by decide) rfl (fun ls hl => ?_)
                replace hl : lv_has ls 7 [(6, .int (iI (jj + o3.getD 1))), (5, .int (iI (bnd o2 ks.length (-1) ((ks.length : Int) - 1) (-1)))), (3, .int (iI (o3.getD 1))), (2, .ref pl), (1, .ref a), (0, .ref o)] := hl
                refine lv_goto (tgt := 149) hx hb d_SE_chooseSlice_179 rfl ?_
                refine W.widen (k := (acl (xs.length + (x1 ++ [(ks.getD jn 0)]).length) - acl xs.length)) (n := (asl (xs.length + (x1 ++ [(ks.getD jn 0)]).length) - asl xs.length)) (by omega) (by omega) ?_
                exact ih (((jj + o3.getD 1) - (bnd o2 ks.length (-1) ((ks.length : Int) - 1) (-1))).toNat) (by omega) (jj + o3.getD 1) f2 (dn ++ [jn]) u36 (x1 ++ [(ks.getD jn 0)]) H locs ls rfl (by omega) (by omega) (by omega) (by rw [hst, List.append_assoc, hjn]; rfl) (hal9) (by rw [List.map_append]; exact hi6.app (p := kidL x jn) (by omega) (kid_le hv (by omega) h32) hvt) (lv_sub hl [0, 1, 2, 3, 4, 5] rfl) (zz_pickP (pre := []) (fz := (u36 ++ fz)) (wc := []) hP [] rfl) (zz_pickD (pre := []) (fz := (u36 ++ fz)) (wc := []) hD [] (by decide) rfl) hS
          refine W.widen (k := (acl (xs.length + ([] : List Nat).length) - acl xs.length)) (n := (asl (xs.length + ([] : List Nat).length) - asl xs.length)) (by omega) (by omega) ?_
          exact hloop _ (bnd o1 ks.length (-1) ((ks.length : Int) - 1) ((ks.length : Int) - 1)) (ks.length + 1) ([]) lz ([] : List Nat) _ _ ls rfl (by omega) (by omega) (by omega) (rfl) (by rw [List.append_nil]; exact hal) (VLS.nil) (lv_sub hl [0, 1, 3, 6, 5, 4] rfl) (zz_pickP (pre := []) (fz := (lz ++ fz)) (wc := []) hP [] rfl) (zz_pickD (pre := []) (fz := (lz ++ fz)) (wc := []) hD [] (by decide) rfl) hS
        · have hpp : 0 < o3.getD 1 := Int.not_le.mp (fun h => h7 ((iI_leI (y := 0) (by omega) (by omega) (by decide) (by decide)).mpr h))
          have hslc : slc ks.length o1 o2 (some (o3.getD 1)) = stU (ks.length + 1) (bnd o1 ks.length 0 (ks.length : Int) 0) (bnd o2 ks.length 0 (ks.length : Int) (ks.length : Int)) (o3.getD 1) := slc_pos hpp
          have hfr : 0 ≤ (bnd o1 ks.length 0 (ks.length : Int) 0) ∧ (bnd o1 ks.length 0 (ks.length : Int) 0) ≤ (ks.length : Int) := by unfold bnd; split <;> constructor <;> omega
          have hto : 0 ≤ (bnd o2 ks.length 0 (ks.length : Int) (ks.length : Int)) ∧ (bnd o2 ks.length 0 (ks.length : Int) (ks.length : Int)) ≤ (ks.length : Int) := by unfold bnd; split <;> constructor <;> omega
          have hnm1 : nI ks.length - 1 = iI ((ks.length : Int) - 1) := by rw [← iI_nat]; show iI _ - iI 1 = _; exact (Int32.ofInt_sub ..).symm
          refine lv_aload_n hx hb d_SE_chooseSlice_45 rfl (lv_at hl 2 rfl) ?_
          obtain ⟨qz27, hz27⟩ := List.getElem?_of_mem (List.mem_append_right [] (hgr _ hsc))
          refine va_get (D := (dC, dI)) (ci := 10) (v := .int (ixI o2)) (C := R_SE) (T := T_SE) (N := 6) hx hb htb in_SE hown hK hP qz27 hz27 rfl 3 (by decide) (htb _ m_902) (fun _ h9 => h9) rfl d_SE_chooseSlice_46 ?_
          refine lv_iload hx hb d_SE_chooseSlice_49 (lv_at hl 0 rfl) ?_
          refine lv_iconst (v := 0) hx hb d_SE_chooseSlice_51 (by decide) ?_
          refine lv_iload hx hb d_SE_chooseSlice_52 (lv_at hl 0 rfl) ?_
          refine lv_iload hx hb d_SE_chooseSlice_54 (lv_at hl 0 rfl) ?_
          refine W.eq (g2 := F0 m 56 ls [.int (iI (ks.length : Int)), .int (iI (ks.length : Int)), .int (iI 0), .int (nI ks.length), .int (ixI o2)]) (by rw [iI_nat ks.length]; rfl) ?_
          have hPc : va_P (dC, dI) vwCl [] _ := hP.sub (ws' := []) [] rfl
          have hKc := hK.sub (tys' := []) [] rfl
          refine vp_callSi (W.runS (As := [.int (ixI o2), .int (nI ks.length), .int (iI 0), .int (iI (ks.length : Int)), .int (iI (ks.length : Int))]) (rest := []) ⟨hx, hb, hml, hown, htb⟩ (q_SE_bound l dC dI o2 ks.length 0 (ks.length : Int) (ks.length : Int) hr2 (by omega) (by omega) (by omega) (by omega) (by omega)) (va_cwS 5 htb (g_S (fun _ h => h) m_1021 m_1019 m_1020 m_26) rfl rfl rfl (by decide +kernel) ⟨Nat.le_of_ble_eq_true rfl, Nat.le_of_ble_eq_true rfl⟩) ⟨fun a U g mk q => by obtain ⟨q0, qP, qK⟩ := q; exact ⟨q0, qP, va_K.moved (u := U) (U := U.calling g mk a) (Vm.Alike.refl U.vm) qK⟩, fun U hU hW => ⟨rfl, by rw [hU]; exact hPc, va_K.moved hW.alike hKc⟩⟩ rfl rfl hl.1 rfl (lv_room (Nat.le_of_ble_eq_true rfl)) d_SE_chooseSlice_56 ⟨(by show 0 ≤ (acl (xs.length + (if hdK x.2 = 5 then (slc (ksR x.2).length o1 o2 o3).map (kidL x) else []).length) - acl xs.length); omega), (by show 0 ≤ (asl (xs.length + (if hdK x.2 = 5 then (slc (ksR x.2).length o1 o2 o3).map (kidL x) else []).length) - asl xs.length); omega)⟩) (fun r28 hw29 => ?_)
          replace hw29 : r28 = iI (bnd o2 ks.length 0 (ks.length : Int) (ks.length : Int)) := hw29
          clear hPc hKc
          obtain rfl := hw29
          refine lv_istore hx hb d_SE_chooseSlice_59 hl (by decide) rfl (fun ls hl => ?_)
          replace hl : lv_has ls 7 [(5, .int (iI (bnd o2 ks.length 0 (ks.length : Int) (ks.length : Int)))), (4, .int (nI ks.length)), (3, .int (iI (o3.getD 1))), (0, .ref o), (1, .ref a), (2, .ref pl)] := hl
          refine lv_aload_n hx hb d_SE_chooseSlice_61 rfl (lv_at hl 3 rfl) ?_
          obtain ⟨qz30, hz30⟩ := List.getElem?_of_mem (List.mem_append_right [] (hgr _ hsc))
          refine va_get (D := (dC, dI)) (ci := 10) (v := .int (ixI o1)) (C := R_SE) (T := T_SE) (N := 6) hx hb htb in_SE hown hK hP qz30 hz30 rfl 2 (by decide) (htb _ m_901) (fun _ h9 => h9) rfl d_SE_chooseSlice_62 ?_
          refine lv_iload hx hb d_SE_chooseSlice_65 (lv_at hl 1 rfl) ?_
          refine lv_iconst (v := 0) hx hb d_SE_chooseSlice_67 (by decide) ?_
          refine lv_iload hx hb d_SE_chooseSlice_68 (lv_at hl 1 rfl) ?_
          refine lv_iconst (v := 0) hx hb d_SE_chooseSlice_70 (by decide) ?_
          refine W.eq (g2 := F0 m 71 ls [.int (iI 0), .int (iI (ks.length : Int)), .int (iI 0), .int (nI ks.length), .int (ixI o1)]) (by rw [iI_nat ks.length]; rfl) ?_
          have hPc : va_P (dC, dI) vwCl [] _ := hP.sub (ws' := []) [] rfl
          have hKc := hK.sub (tys' := []) [] rfl
          refine vp_callSi (W.runS (As := [.int (ixI o1), .int (nI ks.length), .int (iI 0), .int (iI (ks.length : Int)), .int (iI 0)]) (rest := []) ⟨hx, hb, hml, hown, htb⟩ (q_SE_bound l dC dI o1 ks.length 0 (ks.length : Int) 0 hr1 (by omega) (by omega) (by omega) (by omega) (by omega)) (va_cwS 5 htb (g_S (fun _ h => h) m_1021 m_1019 m_1020 m_26) rfl rfl rfl (by decide +kernel) ⟨Nat.le_of_ble_eq_true rfl, Nat.le_of_ble_eq_true rfl⟩) ⟨fun a U g mk q => by obtain ⟨q0, qP, qK⟩ := q; exact ⟨q0, qP, va_K.moved (u := U) (U := U.calling g mk a) (Vm.Alike.refl U.vm) qK⟩, fun U hU hW => ⟨rfl, by rw [hU]; exact hPc, va_K.moved hW.alike hKc⟩⟩ rfl rfl hl.1 rfl (lv_room (Nat.le_of_ble_eq_true rfl)) d_SE_chooseSlice_71 ⟨(by show 0 ≤ (acl (xs.length + (if hdK x.2 = 5 then (slc (ksR x.2).length o1 o2 o3).map (kidL x) else []).length) - acl xs.length); omega), (by show 0 ≤ (asl (xs.length + (if hdK x.2 = 5 then (slc (ksR x.2).length o1 o2 o3).map (kidL x) else []).length) - asl xs.length); omega)⟩) (fun r31 hw32 => ?_)
          replace hw32 : r31 = iI (bnd o1 ks.length 0 (ks.length : Int) 0) := hw32
          clear hPc hKc
          obtain rfl := hw32
          refine lv_istore hx hb d_SE_chooseSlice_74 hl (by decide) rfl (fun ls hl => ?_)
          replace hl : lv_has ls 7 [(6, .int (iI (bnd o1 ks.length 0 (ks.length : Int) 0))), (5, .int (iI (bnd o2 ks.length 0 (ks.length : Int) (ks.length : Int)))), (4, .int (nI ks.length)), (3, .int (iI (o3.getD 1))), (0, .ref o), (1, .ref a), (2, .ref pl)] := hl
          have hloop : ∀ (k9 : Nat) (jj : Int) (ff : Nat) (dn : List Nat) (lz1 : va_W) (x1 : List Nat) (H : Heap) (locs : List Loc) (ls : Array Slot), ((bnd o2 ks.length 0 (ks.length : Int) (ks.length : Int)) - jj).toNat = k9 → (0 ≤ jj) → (jj ≤ 2000) → (((bnd o2 ks.length 0 (ks.length : Int) (ks.length : Int)) - jj).toNat < ff) → (stU (ks.length + 1) (bnd o1 ks.length 0 (ks.length : Int) 0) (bnd o2 ks.length 0 (ks.length : Int) (ks.length : Int)) (o3.getD 1) = dn ++ stU ff jj (bnd o2 ks.length 0 (ks.length : Int) (ks.length : Int)) (o3.getD 1)) → (ALc cO em pl (xs ++ x1) lz1) → (VLS cB cO em aK fz x1 (dn.map (kidL x))) → lv_has ls 7 [(6, .int (iI jj)), (5, .int (iI (bnd o2 ks.length 0 (ks.length : Int) (ks.length : Int)))), (3, .int (iI (o3.getD 1))), (2, .ref pl), (1, .ref a), (0, .ref o)] → va_P (dC, dI) vwCl ([] ++ (lz1 ++ fz)) H → va_D A ([] ++ (lz1 ++ fz)) → va_S A s.heap H locs → W p l e (headSpec ws_SE_chooseSlice ({ frames := 7, cells := (acl (xs.length + (if hdK x.2 = 5 then (slc (ksR x.2).length o1 o2 o3).map (kidL x) else []).length) - acl xs.length), slots := (asl (xs.length + (if hdK x.2 = 5 then (slc (ksR x.2).length o1 o2 o3).map (kidL x) else []).length) - asl xs.length), locals := 171 })).room s m args below meth c H locs (acl (xs.length + x1.length) - acl xs.length) (asl (xs.length + x1.length) - asl xs.length) Q (F0 m 76 ls []) := by
            intro k9
            induction k9 using Nat.strongRecOn with
            | ind k9 ih =>
              intro jj ff dn lz1 x1 H locs ls hk9 hk1 hk2 hff hst hiL hi6 hl hP hD hS
              have hlx1 : x1.length = dn.length := by have := hi6.1; rw [List.length_map] at this; exact this.symm
              have hdl : dn.length ≤ (slc ks.length o1 o2 (some (o3.getD 1))).length := by rw [hslc, hst, List.length_append]; omega
              have hsll := slc_len (n := ks.length) (a := o1) (b := o2) (c := some (o3.getD 1))
              have hSL : (if hdK x.2 = 5 then (slc (ksR x.2).length o1 o2 o3).map (kidL x) else []).length = (slc ks.length o1 o2 (some (o3.getD 1))).length := by rw [hsl1, List.length_map]
              have hup := ac_up (xs.length + x1.length) (xs.length + (if hdK x.2 = 5 then (slc (ksR x.2).length o1 o2 o3).map (kidL x) else []).length) (by omega) (by omega)
              have hgr1 : ∀ q ∈ fz, q ∈ (lz1 ++ fz) := fun q hq => List.mem_append_right _ hq
              have hkl9 := hkl.mono hgr1
              refine lv_iload hx hb d_SE_chooseSlice_76 (lv_at hl 0 rfl) ?_
              refine lv_iload hx hb d_SE_chooseSlice_78 (lv_at hl 1 rfl) ?_
              refine lv_icmp_ge (tgt := 109) hx hb d_SE_chooseSlice_80 rfl (fun h7 => ?_) (fun h7 => ?_)
              · have h7 : (bnd o2 ks.length 0 (ks.length : Int) (ks.length : Int)) ≤ jj := (iI_leI (by omega) (by omega) (by omega) (by omega)).mp h7
                have hnc : ¬ (if 0 < o3.getD 1 then jj < (bnd o2 ks.length 0 (ks.length : Int) (ks.length : Int)) else (bnd o2 ks.length 0 (ks.length : Int) (ks.length : Int)) < jj) := by rw [if_pos hpp]; omega
                rw [stU_no hnc, List.append_nil] at hst
                refine lv_goto (tgt := 182) hx hb d_SE_chooseSlice_109 rfl ?_
                have hP9 := zz_pickP (pre := []) (fz := (lz1 ++ fz)) (wc := []) hP [] rfl
                have hD9 := zz_pickD (pre := []) (fz := (lz1 ++ fz)) (wc := []) hD [] (by decide) rfl
                have hK9 := hK.sub (tys' := [(cB, .byte), (cO, .object "java/lang/Object")]) [0, 1] rfl
                rw [hQ]
                refine W.widen (k := (acl (xs.length + (if hdK x.2 = 5 then (slc (ksR x.2).length o1 o2 o3).map (kidL x) else []).length) - acl xs.length)) (n := (asl (xs.length + (if hdK x.2 = 5 then (slc (ksR x.2).length o1 o2 o3).map (kidL x) else []).length) - asl xs.length)) ((by show (acl (xs.length + x1.length) - acl xs.length) ≤ (acl (xs.length + (if hdK x.2 = 5 then (slc (ksR x.2).length o1 o2 o3).map (kidL x) else []).length) - acl xs.length); omega)) ((by show (asl (xs.length + x1.length) - asl xs.length) ≤ (asl (xs.length + (if hdK x.2 = 5 then (slc (ksR x.2).length o1 o2 o3).map (kidL x) else []).length) - asl xs.length); omega)) ?_
                exact W.vret hx hb hr (fun t ht hW => ⟨⟨(lz1, x1), rfl, ⟨hiL, by rw [hsl1, hslc, hst]; exact hi6⟩, ⟨by rw [ht]; exact hP9, va_K.moved hW.alike hK9, hD9⟩⟩, hS.F ht⟩) hS.2.2 d_SE_chooseSlice_182
              · have h7 : jj < (bnd o2 ks.length 0 (ks.length : Int) (ks.length : Int)) := Int.not_le.mp (fun h => h7 ((iI_leI (by omega) (by omega) (by omega) (by omega)).mpr h))
                have hcc : (if 0 < o3.getD 1 then jj < (bnd o2 ks.length 0 (ks.length : Int) (ks.length : Int)) else (bnd o2 ks.length 0 (ks.length : Int) (ks.length : Int)) < jj) := by rw [if_pos hpp]; omega
                obtain ⟨f2, rfl⟩ : ∃ f2, ff = f2 + 1 := ⟨ff - 1, by omega⟩
                rw [stU_go hcc] at hst
                have hdl2 : dn.length + 1 ≤ (slc ks.length o1 o2 (some (o3.getD 1))).length := by rw [hslc, hst, List.length_append, List.length_cons]; omega
                have hup2 := ac_up (xs.length + x1.length + 1) (xs.length + (if hdK x.2 = 5 then (slc (ksR x.2).length o1 o2 o3).map (kidL x) else []).length) (by omega) (by omega)
                obtain ⟨jn, hjn⟩ := Int.eq_ofNat_of_zero_le (show 0 ≤ jj by omega)
                have hjl : jn < ks.length := by omega
                have hvt := hvl jn hjl
                obtain ⟨kd0, tx0, nu0, nm0, pa0, dp0, cn0, hc0, hn0⟩ := hvt.cellN
                refine lv_aload_n hx hb d_SE_chooseSlice_83 rfl (lv_at hl 3 rfl) ?_
                refine lv_aload_n hx hb d_SE_chooseSlice_84 rfl (lv_at hl 4 rfl) ?_
                obtain ⟨qz33, hz33⟩ := List.getElem?_of_mem (List.mem_append_right [] (hgr1 _ hc))
                refine va_get (D := (dC, dI)) (ci := 3) (v := .ref pa) (C := R_VA) (T := T_VA) (N := 7) hx hb htb in_VA hown hK hP qz33 hz33 rfl 4 (by decide) (htb _ m_398) (fun _ h9 => h9) rfl d_SE_chooseSlice_85 ?_
                refine lv_iload hx hb d_SE_chooseSlice_88 (lv_at hl 0 rfl) ?_
                refine W.eq (congrArg (fun z => F0 m 90 ls (.int z :: [.ref pa, .ref pl])) (by rw [hjn]; exact iI_nat jn : (iI jj) = nI jn)) ?_
                have hPc : va_P (dC, dI) vwCl ([] ++ (lz1 ++ fz)) _ := zz_tlP (pre := []) (tl := (lz1 ++ fz)) hP
                have hKc := hK.sub (tys' := [(cO, .object "java/lang/Object")]) [1] rfl
                refine va_csq (W.runV (As := [.int (nI jn)]) (rest := [.ref pl]) ⟨hx, hb, hml, hown, htb⟩ (z_AL_get l dC dI pa ks cO em jn (lz1 ++ fz) hkl9 hjl) (cwV 1 htb (g_V (fun _ h => h) m_490 m_1024 m_488 m_489 m_8) rfl rfl rfl (by decide +kernel) ⟨Nat.le_of_ble_eq_true rfl, Nat.le_of_ble_eq_true rfl⟩) ⟨fun a U g mk q => by obtain ⟨q0, qP, qK⟩ := q; exact ⟨q0, qP, va_K.moved (u := U) (U := U.calling g mk a) (Vm.Alike.refl U.vm) qK⟩, (hkl9).recv hK hP (fun q hq => List.mem_append_right _ hq), fun U hU hW => ⟨rfl, by rw [hU]; exact hPc, va_K.moved hW.alike hKc⟩⟩ rfl rfl hl.1 rfl (lv_room (Nat.le_of_ble_eq_true rfl)) d_SE_chooseSlice_90 ⟨(by show (acl (xs.length + x1.length) - acl xs.length) ≤ (acl (xs.length + (if hdK x.2 = 5 then (slc (ksR x.2).length o1 o2 o3).map (kidL x) else []).length) - acl xs.length); omega), (by show (asl (xs.length + x1.length) - asl xs.length) ≤ (asl (xs.length + (if hdK x.2 = 5 then (slc (ksR x.2).length o1 o2 o3).map (kidL x) else []).length) - asl xs.length); omega)⟩) (fun r34 hw35 => ?_)
                replace hw35 : r34 = some (ks.getD jn 0) := hw35
                clear hPc hKc
                obtain rfl := hw35
                refine W.eq (g2 := F0 m 93 ls [.ref (ks.getD jn 0), .ref pl]) rfl ?_
                refine va_castY (C := "PatchStore$Value") hx hb hown (htb _ m_1025) (nw_14 hE) (zz_recv hK hP (ci := 3) rfl (List.mem_append_right _ (hgr1 _ hc0))) d_SE_chooseSlice_93 ?_
                have hac1 := ac_mono (xs.length + x1.length) (by omega)
                have hau := ac_up xs.length (xs.length + x1.length) (by omega) (by omega)
                have hlx : (xs ++ x1).length = xs.length + x1.length := List.length_append
                rw [← hlx] at hac1 hau
                have hax0 : acl (xs.length + x1.length) = acl (xs ++ x1).length := by rw [hlx]
                have hay0 : asl (xs.length + x1.length) = asl (xs ++ x1).length := by rw [hlx]
                have hax2 : acl (xs.length + x1.length + 1) = acl ((xs ++ x1).length + 1) := by rw [hlx]
                have hay2 : asl (xs.length + x1.length + 1) = asl ((xs ++ x1).length + 1) := by rw [hlx]
                have hPc := zz_pickP (pre := []) (fz := (lz1 ++ fz)) (wc := []) hP [] rfl
                have hDc := zz_pickD (pre := []) (fz := (lz1 ++ fz)) (wc := []) hD [] (by decide) rfl
                have hFc := zz_free (pre := []) (fz := (lz1 ++ fz)) (wc := []) hD hS hA [] rfl
                have hKc := hK.sub (tys' := [(cO, .object "java/lang/Object")]) [1] rfl
                refine va_calli (va_runV (As := [.ref (ks.getD jn 0)]) (rest := []) ⟨hx, hb, hml, hown, htb⟩ (k_AL_add l dC dI _ pl (xs ++ x1) cO 3 (ks.getD jn 0) em aK aV lz1 fz Oci3 hiL ((hls.cat hi6).vin) ((hvt).vin) (by rw [List.length_append]; omega)) (cwV 1 htb (g_V (fun _ h => h) m_525 m_1026 m_523 m_524 m_8) rfl rfl rfl (by decide +kernel) ⟨Nat.le_of_ble_eq_true rfl, Nat.le_of_ble_eq_true rfl⟩) ⟨fun a U g mk q => by obtain ⟨q0, q1, qP, qK, qD, z0⟩ := q; exact ⟨q0, q1, qP, va_K.moved (u := U) (U := U.calling g mk a) (Vm.Alike.refl U.vm) qK, qD, EX.same (U := U) (U' := U.calling g mk a) rfl z0⟩, (hiL.frozen).recv hK hP (fun q hq => List.mem_append_right _ (List.mem_append_left _ hq)), fun U hU hW => ⟨rfl, by rw [hU], by rw [hU]; exact hPc, va_K.moved hW.alike hKc, hDc.weaken (fun _ _ _ _ => trivial), by rw [hU]; exact EX.warm hW ((hE.kept (fun a h1 h2 => hS.2.1 a h1 h2)).narrow hFc)⟩⟩ rfl rfl hl.1 rfl (lv_room (Nat.le_of_ble_eq_true rfl)) d_SE_chooseSlice_96 ⟨(by show ((acl (xs.length + x1.length) - acl xs.length) + (acl ((xs ++ x1).length + 1) - acl (xs ++ x1).length)) ≤ (acl (xs.length + (if hdK x.2 = 5 then (slc (ksR x.2).length o1 o2 o3).map (kidL x) else []).length) - acl xs.length); omega), (by show ((asl (xs.length + x1.length) - asl xs.length) + (asl ((xs ++ x1).length + 1) - asl (xs ++ x1).length)) ≤ (asl (xs.length + (if hdK x.2 = 5 then (slc (ksR x.2).length o1 o2 o3).map (kidL x) else []).length) - asl xs.length); omega)⟩) hS (fun q _ h => hFc q h) hFc (fun r37 u36 t H1 locs ht hvm hw38 hB hz1 hk1 hS => ?_)
                obtain ⟨hP1, hK1, hD1⟩ := hB
                rw [ht] at hP1
                have hK1 := va_K.moved hvm.symm hK1
                replace hw38 : ALc cO em pl ((xs ++ x1) ++ [(ks.getD jn 0)]) u36 := hw38
                obtain ⟨hP, hD⟩ := zz_join (pre := []) (fz := (lz1 ++ fz)) (wc := []) (wr := []) (w1 := ([] ++ (u36 ++ fz))) hP hD [] [] rfl rfl (by decide) (by decide) hk1 hFc hP1 hD1
                have hK := (hK.sub (tys' := [(cB, .byte)]) [0] rfl).app hK1
                generalize H1 = H at hP hS ⊢
                replace hP : va_P (dC, dI) vwCl ([] ++ (u36 ++ fz)) H := hP
                replace hD : va_D A ([] ++ (u36 ++ fz)) := hD
                replace hK : va_K (dC, dI) vwCl [(cB, .byte), (cO, .object "java/lang/Object")] s := hK
                clear hPc hDc hFc hKc hP1 hD1 hK1 hk1 hz1 ht hvm
                have hal9 : ALc cO em pl (xs ++ (x1 ++ [(ks.getD jn 0)])) u36 := by rw [← List.append_assoc]; exact hw38
                have hxl : (x1 ++ [(ks.getD jn 0)]).length = x1.length + 1 := by simp
                have hax : acl (xs.length + (x1 ++ [(ks.getD jn 0)]).length) = acl ((xs ++ x1).length + 1) := by rw [hxl, hlx]; rfl
                have hay : asl (xs.length + (x1 ++ [(ks.getD jn 0)]).length) = asl ((xs ++ x1).length + 1) := by rw [hxl, hlx]; rfl
                refine lv_pop hx hb d_SE_chooseSlice_99 rfl ?_
                refine lv_iload hx hb d_SE_chooseSlice_100 (lv_at hl 0 rfl) ?_
                refine lv_iload_n hx hb d_SE_chooseSlice_102 rfl (lv_at hl 2 rfl) ?_
                refine lv_iadd hx hb d_SE_chooseSlice_103 ?_
                refine W.eq (congrArg (fun z => F0 m 104 ls (.int z :: [])) (iI_add _ _ : ((iI jj) + (iI (o3.getD 1))) = iI (jj + o3.getD 1))) ?_
                refine lv_istore hx hb d_SE_chooseSlice_104 hl (by decide) rfl (fun ls hl => ?_)
                replace hl : lv_has ls 7 [(6, .int (iI (jj + o3.getD 1))), (5, .int (iI (bnd o2 ks.length 0 (ks.length : Int) (ks.length : Int)))), (3, .int (iI (o3.getD 1))), (2, .ref pl), (1, .ref a), (0, .ref o)] := hl
                refine lv_goto (tgt := 76) hx hb d_SE_chooseSlice_106 rfl ?_
                refine W.widen (k := (acl (xs.length + (x1 ++ [(ks.getD jn 0)]).length) - acl xs.length)) (n := (asl (xs.length + (x1 ++ [(ks.getD jn 0)]).length) - asl xs.length)) (by omega) (by omega) ?_
                exact ih (((bnd o2 ks.length 0 (ks.length : Int) (ks.length : Int)) - (jj + o3.getD 1)).toNat) (by omega) (jj + o3.getD 1) f2 (dn ++ [jn]) u36 (x1 ++ [(ks.getD jn 0)]) H locs ls rfl (by omega) (by omega) (by omega) (by rw [hst, List.append_assoc, hjn]; rfl) (hal9) (by rw [List.map_append]; exact hi6.app (p := kidL x jn) (by omega) (kid_le hv (by omega) h32) hvt) (lv_sub hl [0, 1, 2, 3, 4, 5] rfl) (zz_pickP (pre := []) (fz := (u36 ++ fz)) (wc := []) hP [] rfl) (zz_pickD (pre := []) (fz := (u36 ++ fz)) (wc := []) hD [] (by decide) rfl) hS
          refine W.widen (k := (acl (xs.length + ([] : List Nat).length) - acl xs.length)) (n := (asl (xs.length + ([] : List Nat).length) - asl xs.length)) (by omega) (by omega) ?_
          exact hloop _ (bnd o1 ks.length 0 (ks.length : Int) 0) (ks.length + 1) ([]) lz ([] : List Nat) _ _ ls rfl (by omega) (by omega) (by omega) (rfl) (by rw [List.append_nil]; exact hal) (VLS.nil) (lv_sub hl [0, 1, 3, 6, 5, 4] rfl) (zz_pickP (pre := []) (fz := (lz ++ fz)) (wc := []) hP [] rfl) (zz_pickD (pre := []) (fz := (lz ++ fz)) (wc := []) hD [] (by decide) rfl) hS
      · have h6 : o3.getD 1 = 0 := iI_eq0 (by omega) (by omega) (id h6)
        have hsl0 : (if hdK x.2 = 5 then (slc (ksR x.2).length o1 o2 o3).map (kidL x) else []) = [] := by rw [if_pos h5]; unfold slc; rw [if_pos h6]; rfl
        have hP9 := zz_pickP (pre := []) (fz := (lz ++ fz)) (wc := []) hP [] rfl
        have hD9 := zz_pickD (pre := []) (fz := (lz ++ fz)) (wc := []) hD [] (by decide) rfl
        have hK9 := hK.sub (tys' := [(cB, .byte), (cO, .object "java/lang/Object")]) [0, 1] rfl
        rw [hQ]
        refine W.widen (k := (acl (xs.length + (if hdK x.2 = 5 then (slc (ksR x.2).length o1 o2 o3).map (kidL x) else []).length) - acl xs.length)) (n := (asl (xs.length + (if hdK x.2 = 5 then (slc (ksR x.2).length o1 o2 o3).map (kidL x) else []).length) - asl xs.length)) ((by show 0 ≤ (acl (xs.length + (if hdK x.2 = 5 then (slc (ksR x.2).length o1 o2 o3).map (kidL x) else []).length) - acl xs.length); omega)) ((by show 0 ≤ (asl (xs.length + (if hdK x.2 = 5 then (slc (ksR x.2).length o1 o2 o3).map (kidL x) else []).length) - asl xs.length); omega)) ?_
        exact W.vret hx hb hr (fun t ht hW => ⟨⟨(lz, ([] : List Nat)), rfl, ⟨by rw [List.append_nil]; exact hal, by rw [hsl0]; exact VLS.nil⟩, ⟨by rw [ht]; exact hP9, va_K.moved hW.alike hK9, hD9⟩⟩, hS.F ht⟩) hS.2.2 d_SE_chooseSlice_31
  · have h1 := ixI_1000 hr3 h1
    refine lv_iconst (v := 1) hx hb d_SE_chooseSlice_10 (by decide) ?_
    refine lv_goto (tgt := 18) hx hb d_SE_chooseSlice_11 rfl ?_
    refine W.eq (congrArg (fun z => F0 m 18 ls (.int z :: [])) (by rw [h1]; rfl : (1 : Int32) = iI (o3.getD 1))) ?_
    have hp3 := rng_o hr3
    refine lv_istore_n hx hb d_SE_chooseSlice_18 rfl hl (by decide) rfl (fun ls hl => ?_)
    replace hl : lv_has ls 7 [(3, .int (iI (o3.getD 1))), (0, .ref o), (1, .ref a), (2, .ref pl)] := hl
    refine lv_aload_n hx hb d_SE_chooseSlice_19 rfl (lv_at hl 2 rfl) ?_
    obtain ⟨qz22, hz22⟩ := List.getElem?_of_mem (List.mem_append_right [] (hgr _ hc))
    refine va_get (D := (dC, dI)) (ci := 3) (v := .int kd) (C := R_VA) (T := T_VA) (N := 7) hx hb htb in_VA hown hK hP qz22 hz22 rfl 0 (by decide) (htb _ m_383) (fun _ h9 => h9) rfl d_SE_chooseSlice_20 ?_
    refine lv_iconst (v := 3) hx hb d_SE_chooseSlice_23 (by decide) ?_
    refine lv_icmp_ne (tgt := 31) hx hb d_SE_chooseSlice_24 rfl (fun h5 => ?_) (fun h5 => ?_)
    · have h5 : ¬ hdK x.2 = 5 := fun h => h5 ((hhd.kind.2.1).mpr (hhk.symm.trans h))
      have hsl0 : (if hdK x.2 = 5 then (slc (ksR x.2).length o1 o2 o3).map (kidL x) else []) = [] := if_neg h5
      have hP9 := zz_pickP (pre := []) (fz := (lz ++ fz)) (wc := []) hP [] rfl
      have hD9 := zz_pickD (pre := []) (fz := (lz ++ fz)) (wc := []) hD [] (by decide) rfl
      have hK9 := hK.sub (tys' := [(cB, .byte), (cO, .object "java/lang/Object")]) [0, 1] rfl
      rw [hQ]
      refine W.widen (k := (acl (xs.length + (if hdK x.2 = 5 then (slc (ksR x.2).length o1 o2 o3).map (kidL x) else []).length) - acl xs.length)) (n := (asl (xs.length + (if hdK x.2 = 5 then (slc (ksR x.2).length o1 o2 o3).map (kidL x) else []).length) - asl xs.length)) ((by show 0 ≤ (acl (xs.length + (if hdK x.2 = 5 then (slc (ksR x.2).length o1 o2 o3).map (kidL x) else []).length) - acl xs.length); omega)) ((by show 0 ≤ (asl (xs.length + (if hdK x.2 = 5 then (slc (ksR x.2).length o1 o2 o3).map (kidL x) else []).length) - asl xs.length); omega)) ?_
      exact W.vret hx hb hr (fun t ht hW => ⟨⟨(lz, ([] : List Nat)), rfl, ⟨by rw [List.append_nil]; exact hal, by rw [hsl0]; exact VLS.nil⟩, ⟨by rw [ht]; exact hP9, va_K.moved hW.alike hK9, hD9⟩⟩, hS.F ht⟩) hS.2.2 d_SE_chooseSlice_31
    · have h5 : hdK x.2 = 5 := hhk.trans ((hhd.kind.2.1).mp h5)
      refine lv_iload_n hx hb d_SE_chooseSlice_27 rfl (lv_at hl 0 rfl) ?_
      refine lv_if_ne (tgt := 32) hx hb d_SE_chooseSlice_28 rfl (fun h6 => ?_) (fun h6 => ?_)
      · have h6 : ¬ o3.getD 1 = 0 := iI_ne0 (by omega) (by omega) (id h6)
        refine lv_aload_n hx hb d_SE_chooseSlice_32 rfl (lv_at hl 2 rfl) ?_
        obtain ⟨qz23, hz23⟩ := List.getElem?_of_mem (List.mem_append_right [] (hgr _ hc))
        refine va_get (D := (dC, dI)) (ci := 3) (v := .ref pa) (C := R_VA) (T := T_VA) (N := 7) hx hb htb in_VA hown hK hP qz23 hz23 rfl 4 (by decide) (htb _ m_398) (fun _ h9 => h9) rfl d_SE_chooseSlice_33 ?_
        have hPc : va_P (dC, dI) vwCl ([] ++ (lz ++ fz)) _ := zz_tlP (pre := []) (tl := (lz ++ fz)) hP
        have hKc := hK.sub (tys' := []) [] rfl
        refine vp_callSi (W.runV (As := []) (rest := []) ⟨hx, hb, hml, hown, htb⟩ (z_AL_size l dC dI pa ks cO em (lz ++ fz) hkl8) (cwV 0 htb (g_V (fun _ h => h) m_486 m_1018 m_484 m_485 m_8) rfl rfl rfl (by decide +kernel) ⟨Nat.le_of_ble_eq_true rfl, Nat.le_of_ble_eq_true rfl⟩) ⟨fun a U g mk q => by obtain ⟨q0, qP, qK⟩ := q; exact ⟨q0, qP, va_K.moved (u := U) (U := U.calling g mk a) (Vm.Alike.refl U.vm) qK⟩, (hkl8).recv hK hP (fun q hq => List.mem_append_right _ hq), fun U hU hW => ⟨rfl, by rw [hU]; exact hPc, va_K.moved hW.alike hKc⟩⟩ rfl rfl hl.1 rfl (lv_room (Nat.le_of_ble_eq_true rfl)) d_SE_chooseSlice_36 ⟨(by show 0 ≤ (acl (xs.length + (if hdK x.2 = 5 then (slc (ksR x.2).length o1 o2 o3).map (kidL x) else []).length) - acl xs.length); omega), (by show 0 ≤ (asl (xs.length + (if hdK x.2 = 5 then (slc (ksR x.2).length o1 o2 o3).map (kidL x) else []).length) - asl xs.length); omega)⟩) (fun r24 hw25 => ?_)
        replace hw25 : r24 = nI ks.length := hw25
        clear hPc hKc
        obtain rfl := hw25
        have hsl1 : (if hdK x.2 = 5 then (slc (ksR x.2).length o1 o2 o3).map (kidL x) else []) = (slc ks.length o1 o2 (some (o3.getD 1))).map (kidL x) := by rw [if_pos h5, slc_c, hrl]
        refine lv_istore hx hb d_SE_chooseSlice_39 hl (by decide) rfl (fun ls hl => ?_)
        replace hl : lv_has ls 7 [(4, .int (nI ks.length)), (3, .int (iI (o3.getD 1))), (0, .ref o), (1, .ref a), (2, .ref pl)] := hl
        refine lv_iload_n hx hb d_SE_chooseSlice_41 rfl (lv_at hl 1 rfl) ?_
        refine lv_if_le (tgt := 112) hx hb d_SE_chooseSlice_42 rfl (fun h7 => ?_) (fun h7 => ?_)
        · have hpp : o3.getD 1 < 0 := by have := (iI_leI (y := 0) (by omega) (by omega) (by decide) (by decide)).mp h7; omega
          have hslc : slc ks.length o1 o2 (some (o3.getD 1)) = stU (ks.length + 1) (bnd o1 ks.length (-1) ((ks.length : Int) - 1) ((ks.length : Int) - 1)) (bnd o2 ks.length (-1) ((ks.length : Int) - 1) (-1)) (o3.getD 1) := slc_neg hpp
          have hfr : (-1) ≤ (bnd o1 ks.length (-1) ((ks.length : Int) - 1) ((ks.length : Int) - 1)) ∧ (bnd o1 ks.length (-1) ((ks.length : Int) - 1) ((ks.length : Int) - 1)) ≤ ((ks.length : Int) - 1) := by unfold bnd; split <;> constructor <;> omega
          have hto : (-1) ≤ (bnd o2 ks.length (-1) ((ks.length : Int) - 1) (-1)) ∧ (bnd o2 ks.length (-1) ((ks.length : Int) - 1) (-1)) ≤ ((ks.length : Int) - 1) := by unfold bnd; split <;> constructor <;> omega
          have hnm1 : nI ks.length - 1 = iI ((ks.length : Int) - 1) := by rw [← iI_nat]; show iI _ - iI 1 = _; exact (Int32.ofInt_sub ..).symm
          refine lv_aload_n hx hb d_SE_chooseSlice_112 rfl (lv_at hl 2 rfl) ?_
          obtain ⟨qz26, hz26⟩ := List.getElem?_of_mem (List.mem_append_right [] (hgr _ hsc))
          refine va_get (D := (dC, dI)) (ci := 10) (v := .int (ixI o2)) (C := R_SE) (T := T_SE) (N := 6) hx hb htb in_SE hown hK hP qz26 hz26 rfl 3 (by decide) (htb _ m_902) (fun _ h9 => h9) rfl d_SE_chooseSlice_113 ?_
          refine lv_iload hx hb d_SE_chooseSlice_116 (lv_at hl 0 rfl) ?_
          refine lv_iconst (v := (-1)) hx hb d_SE_chooseSlice_118 (by decide) ?_
          refine lv_iload hx hb d_SE_chooseSlice_119 (lv_at hl 0 rfl) ?_
          refine lv_iconst (v := 1) hx hb d_SE_chooseSlice_121 (by decide) ?_
          refine lv_isub hx hb d_SE_chooseSlice_122 ?_
          refine lv_iconst (v := (-1)) hx hb d_SE_chooseSlice_123 (by decide) ?_
          refine W.eq (g2 := F0 m 124 ls [.int (iI (-1)), .int (iI ((ks.length : Int) - 1)), .int (iI (-1)), .int (nI ks.length), .int (ixI o2)]) (by rw [← hnm1]; rfl) ?_
          have hPc : va_P (dC, dI) vwCl [] _ := hP.sub (ws' := []) [] rfl
          have hKc := hK.sub (tys' := []) [] rfl
          refine vp_callSi (W.runS (As := [.int (ixI o2), .int (nI ks.length), .int (iI (-1)), .int (iI ((ks.length : Int) - 1)), .int (iI (-1))]) (rest := []) ⟨hx, hb, hml, hown, htb⟩ (q_SE_bound l dC dI o2 ks.length (-1) ((ks.length : Int) - 1) (-1) hr2 (by omega) (by omega) (by omega) (by omega) (by omega)) (va_cwS 5 htb (g_S (fun _ h => h) m_1021 m_1019 m_1020 m_26) rfl rfl rfl (by decide +kernel) ⟨Nat.le_of_ble_eq_true rfl, Nat.le_of_ble_eq_true rfl⟩) ⟨fun a U g mk q => by obtain ⟨q0, qP, qK⟩ := q; exact ⟨q0, qP, va_K.moved (u := U) (U := U.calling g mk a) (Vm.Alike.refl U.vm) qK⟩, fun U hU hW => ⟨rfl, by rw [hU]; exact hPc, va_K.moved hW.alike hKc⟩⟩ rfl rfl hl.1 rfl (lv_room (Nat.le_of_ble_eq_true rfl)) d_SE_chooseSlice_124 ⟨(by show 0 ≤ (acl (xs.length + (if hdK x.2 = 5 then (slc (ksR x.2).length o1 o2 o3).map (kidL x) else []).length) - acl xs.length); omega), (by show 0 ≤ (asl (xs.length + (if hdK x.2 = 5 then (slc (ksR x.2).length o1 o2 o3).map (kidL x) else []).length) - asl xs.length); omega)⟩) (fun r27 hw28 => ?_)
          replace hw28 : r27 = iI (bnd o2 ks.length (-1) ((ks.length : Int) - 1) (-1)) := hw28
          clear hPc hKc
          obtain rfl := hw28
          refine lv_istore hx hb d_SE_chooseSlice_127 hl (by decide) rfl (fun ls hl => ?_)
          replace hl : lv_has ls 7 [(5, .int (iI (bnd o2 ks.length (-1) ((ks.length : Int) - 1) (-1)))), (4, .int (nI ks.length)), (3, .int (iI (o3.getD 1))), (0, .ref o), (1, .ref a), (2, .ref pl)] := hl
          refine lv_aload_n hx hb d_SE_chooseSlice_129 rfl (lv_at hl 3 rfl) ?_
          obtain ⟨qz29, hz29⟩ := List.getElem?_of_mem (List.mem_append_right [] (hgr _ hsc))
          refine va_get (D := (dC, dI)) (ci := 10) (v := .int (ixI o1)) (C := R_SE) (T := T_SE) (N := 6) hx hb htb in_SE hown hK hP qz29 hz29 rfl 2 (by decide) (htb _ m_901) (fun _ h9 => h9) rfl d_SE_chooseSlice_130 ?_
          refine lv_iload hx hb d_SE_chooseSlice_133 (lv_at hl 1 rfl) ?_
          refine lv_iconst (v := (-1)) hx hb d_SE_chooseSlice_135 (by decide) ?_
          refine lv_iload hx hb d_SE_chooseSlice_136 (lv_at hl 1 rfl) ?_
          refine lv_iconst (v := 1) hx hb d_SE_chooseSlice_138 (by decide) ?_
          refine lv_isub hx hb d_SE_chooseSlice_139 ?_
          refine lv_iload hx hb d_SE_chooseSlice_140 (lv_at hl 1 rfl) ?_
          refine lv_iconst (v := 1) hx hb d_SE_chooseSlice_142 (by decide) ?_
          refine lv_isub hx hb d_SE_chooseSlice_143 ?_
          refine W.eq (g2 := F0 m 144 ls [.int (iI ((ks.length : Int) - 1)), .int (iI ((ks.length : Int) - 1)), .int (iI (-1)), .int (nI ks.length), .int (ixI o1)]) (by rw [← hnm1]; rfl) ?_
          have hPc : va_P (dC, dI) vwCl [] _ := hP.sub (ws' := []) [] rfl
          have hKc := hK.sub (tys' := []) [] rfl
          refine vp_callSi (W.runS (As := [.int (ixI o1), .int (nI ks.length), .int (iI (-1)), .int (iI ((ks.length : Int) - 1)), .int (iI ((ks.length : Int) - 1))]) (rest := []) ⟨hx, hb, hml, hown, htb⟩ (q_SE_bound l dC dI o1 ks.length (-1) ((ks.length : Int) - 1) ((ks.length : Int) - 1) hr1 (by omega) (by omega) (by omega) (by omega) (by omega)) (va_cwS 5 htb (g_S (fun _ h => h) m_1021 m_1019 m_1020 m_26) rfl rfl rfl (by decide +kernel) ⟨Nat.le_of_ble_eq_true rfl, Nat.le_of_ble_eq_true rfl⟩) ⟨fun a U g mk q => by obtain ⟨q0, qP, qK⟩ := q; exact ⟨q0, qP, va_K.moved (u := U) (U := U.calling g mk a) (Vm.Alike.refl U.vm) qK⟩, fun U hU hW => ⟨rfl, by rw [hU]; exact hPc, va_K.moved hW.alike hKc⟩⟩ rfl rfl hl.1 rfl (lv_room (Nat.le_of_ble_eq_true rfl)) d_SE_chooseSlice_144 ⟨(by show 0 ≤ (acl (xs.length + (if hdK x.2 = 5 then (slc (ksR x.2).length o1 o2 o3).map (kidL x) else []).length) - acl xs.length); omega), (by show 0 ≤ (asl (xs.length + (if hdK x.2 = 5 then (slc (ksR x.2).length o1 o2 o3).map (kidL x) else []).length) - asl xs.length); omega)⟩) (fun r30 hw31 => ?_)
          replace hw31 : r30 = iI (bnd o1 ks.length (-1) ((ks.length : Int) - 1) ((ks.length : Int) - 1)) := hw31
          clear hPc hKc
          obtain rfl := hw31
          refine lv_istore hx hb d_SE_chooseSlice_147 hl (by decide) rfl (fun ls hl => ?_)
          replace hl : lv_has ls 7 [(6, .int (iI (bnd o1 ks.length (-1) ((ks.length : Int) - 1) ((ks.length : Int) - 1)))), (5, .int (iI (bnd o2 ks.length (-1) ((ks.length : Int) - 1) (-1)))), (4, .int (nI ks.length)), (3, .int (iI (o3.getD 1))), (0, .ref o), (1, .ref a), (2, .ref pl)] := hl
          have hloop : ∀ (k9 : Nat) (jj : Int) (ff : Nat) (dn : List Nat) (lz1 : va_W) (x1 : List Nat) (H : Heap) (locs : List Loc) (ls : Array Slot), (jj - (bnd o2 ks.length (-1) ((ks.length : Int) - 1) (-1))).toNat = k9 → (jj < (ks.length : Int)) → (-2000 ≤ jj) → ((jj - (bnd o2 ks.length (-1) ((ks.length : Int) - 1) (-1))).toNat < ff) → (stU (ks.length + 1) (bnd o1 ks.length (-1) ((ks.length : Int) - 1) ((ks.length : Int) - 1)) (bnd o2 ks.length (-1) ((ks.length : Int) - 1) (-1)) (o3.getD 1) = dn ++ stU ff jj (bnd o2 ks.length (-1) ((ks.length : Int) - 1) (-1)) (o3.getD 1)) → (ALc cO em pl (xs ++ x1) lz1) → (VLS cB cO em aK fz x1 (dn.map (kidL x))) → lv_has ls 7 [(6, .int (iI jj)), (5, .int (iI (bnd o2 ks.length (-1) ((ks.length : Int) - 1) (-1)))), (3, .int (iI (o3.getD 1))), (2, .ref pl), (1, .ref a), (0, .ref o)] → va_P (dC, dI) vwCl ([] ++ (lz1 ++ fz)) H → va_D A ([] ++ (lz1 ++ fz)) → va_S A s.heap H locs → W p l e (headSpec ws_SE_chooseSlice ({ frames := 7, cells := (acl (xs.length + (if hdK x.2 = 5 then (slc (ksR x.2).length o1 o2 o3).map (kidL x) else []).length) - acl xs.length), slots := (asl (xs.length + (if hdK x.2 = 5 then (slc (ksR x.2).length o1 o2 o3).map (kidL x) else []).length) - asl xs.length), locals := 171 })).room s m args below meth c H locs (acl (xs.length + x1.length) - acl xs.length) (asl (xs.length + x1.length) - asl xs.length) Q (F0 m 149 ls []) := by
            intro k9
            induction k9 using Nat.strongRecOn with
            | ind k9 ih =>
              intro jj ff dn lz1 x1 H locs ls hk9 hk1 hk2 hff hst hiL hi6 hl hP hD hS
              have hlx1 : x1.length = dn.length := by have := hi6.1; rw [List.length_map] at this; exact this.symm
              have hdl : dn.length ≤ (slc ks.length o1 o2 (some (o3.getD 1))).length := by rw [hslc, hst, List.length_append]; omega
              have hsll := slc_len (n := ks.length) (a := o1) (b := o2) (c := some (o3.getD 1))
              have hSL : (if hdK x.2 = 5 then (slc (ksR x.2).length o1 o2 o3).map (kidL x) else []).length = (slc ks.length o1 o2 (some (o3.getD 1))).length := by rw [hsl1, List.length_map]
              have hup := ac_up (xs.length + x1.length) (xs.length + (if hdK x.2 = 5 then (slc (ksR x.2).length o1 o2 o3).map (kidL x) else []).length) (by omega) (by omega)
              have hgr1 : ∀ q ∈ fz, q ∈ (lz1 ++ fz) := fun q hq => List.mem_append_right _ hq
              have hkl9 := hkl.mono hgr1
              refine lv_iload hx hb d_SE_chooseSlice_149 (lv_at hl 0 rfl) ?_
              refine lv_iload hx hb d_SE_chooseSlice_151 (lv_at hl 1 rfl) ?_
              refine lv_icmp_le (tgt := 182) hx hb d_SE_chooseSlice_153 rfl (fun h7 => ?_) (fun h7 => ?_)
              · have h7 : jj ≤ (bnd o2 ks.length (-1) ((ks.length : Int) - 1) (-1)) := (iI_leI (by omega) (by omega) (by omega) (by omega)).mp h7
                have hnc : ¬ (if 0 < o3.getD 1 then jj < (bnd o2 ks.length (-1) ((ks.length : Int) - 1) (-1)) else (bnd o2 ks.length (-1) ((ks.length : Int) - 1) (-1)) < jj) := by rw [if_neg (by omega)]; omega
                rw [stU_no hnc, List.append_nil] at hst
                have hP9 := zz_pickP (pre := []) (fz := (lz1 ++ fz)) (wc := []) hP [] rfl
                have hD9 := zz_pickD (pre := []) (fz := (lz1 ++ fz)) (wc := []) hD [] (by decide) rfl
                have hK9 := hK.sub (tys' := [(cB, .byte), (cO, .object "java/lang/Object")]) [0, 1] rfl
                rw [hQ]
                refine W.widen (k := (acl (xs.length + (if hdK x.2 = 5 then (slc (ksR x.2).length o1 o2 o3).map (kidL x) else []).length) - acl xs.length)) (n := (asl (xs.length + (if hdK x.2 = 5 then (slc (ksR x.2).length o1 o2 o3).map (kidL x) else []).length) - asl xs.length)) ((by show (acl (xs.length + x1.length) - acl xs.length) ≤ (acl (xs.length + (if hdK x.2 = 5 then (slc (ksR x.2).length o1 o2 o3).map (kidL x) else []).length) - acl xs.length); omega)) ((by show (asl (xs.length + x1.length) - asl xs.length) ≤ (asl (xs.length + (if hdK x.2 = 5 then (slc (ksR x.2).length o1 o2 o3).map (kidL x) else []).length) - asl xs.length); omega)) ?_
                exact W.vret hx hb hr (fun t ht hW => ⟨⟨(lz1, x1), rfl, ⟨hiL, by rw [hsl1, hslc, hst]; exact hi6⟩, ⟨by rw [ht]; exact hP9, va_K.moved hW.alike hK9, hD9⟩⟩, hS.F ht⟩) hS.2.2 d_SE_chooseSlice_182
              · have h7 : (bnd o2 ks.length (-1) ((ks.length : Int) - 1) (-1)) < jj := Int.not_le.mp (fun h => h7 ((iI_leI (by omega) (by omega) (by omega) (by omega)).mpr h))
                have hcc : (if 0 < o3.getD 1 then jj < (bnd o2 ks.length (-1) ((ks.length : Int) - 1) (-1)) else (bnd o2 ks.length (-1) ((ks.length : Int) - 1) (-1)) < jj) := by rw [if_neg (by omega)]; omega
                obtain ⟨f2, rfl⟩ : ∃ f2, ff = f2 + 1 := ⟨ff - 1, by omega⟩
                rw [stU_go hcc] at hst
                have hdl2 : dn.length + 1 ≤ (slc ks.length o1 o2 (some (o3.getD 1))).length := by rw [hslc, hst, List.length_append, List.length_cons]; omega
                have hup2 := ac_up (xs.length + x1.length + 1) (xs.length + (if hdK x.2 = 5 then (slc (ksR x.2).length o1 o2 o3).map (kidL x) else []).length) (by omega) (by omega)
                obtain ⟨jn, hjn⟩ := Int.eq_ofNat_of_zero_le (show 0 ≤ jj by omega)
                have hjl : jn < ks.length := by omega
                have hvt := hvl jn hjl
                obtain ⟨kd0, tx0, nu0, nm0, pa0, dp0, cn0, hc0, hn0⟩ := hvt.cellN
                refine lv_aload_n hx hb d_SE_chooseSlice_156 rfl (lv_at hl 3 rfl) ?_
                refine lv_aload_n hx hb d_SE_chooseSlice_157 rfl (lv_at hl 4 rfl) ?_
                obtain ⟨qz32, hz32⟩ := List.getElem?_of_mem (List.mem_append_right [] (hgr1 _ hc))
                refine va_get (D := (dC, dI)) (ci := 3) (v := .ref pa) (C := R_VA) (T := T_VA) (N := 7) hx hb htb in_VA hown hK hP qz32 hz32 rfl 4 (by decide) (htb _ m_398) (fun _ h9 => h9) rfl d_SE_chooseSlice_158 ?_
                refine lv_iload hx hb d_SE_chooseSlice_161 (lv_at hl 0 rfl) ?_
                refine W.eq (congrArg (fun z => F0 m 163 ls (.int z :: [.ref pa, .ref pl])) (by rw [hjn]; exact iI_nat jn : (iI jj) = nI jn)) ?_
                have hPc : va_P (dC, dI) vwCl ([] ++ (lz1 ++ fz)) _ := zz_tlP (pre := []) (tl := (lz1 ++ fz)) hP
                have hKc := hK.sub (tys' := [(cO, .object "java/lang/Object")]) [1] rfl
                refine va_csq (W.runV (As := [.int (nI jn)]) (rest := [.ref pl]) ⟨hx, hb, hml, hown, htb⟩ (z_AL_get l dC dI pa ks cO em jn (lz1 ++ fz) hkl9 hjl) (cwV 1 htb (g_V (fun _ h => h) m_490 m_1024 m_488 m_489 m_8) rfl rfl rfl (by decide +kernel) ⟨Nat.le_of_ble_eq_true rfl, Nat.le_of_ble_eq_true rfl⟩) ⟨fun a U g mk q => by obtain ⟨q0, qP, qK⟩ := q; exact ⟨q0, qP, va_K.moved (u := U) (U := U.calling g mk a) (Vm.Alike.refl U.vm) qK⟩, (hkl9).recv hK hP (fun q hq => List.mem_append_right _ hq), fun U hU hW => ⟨rfl, by rw [hU]; exact hPc, va_K.moved hW.alike hKc⟩⟩ rfl rfl hl.1 rfl (lv_room (Nat.le_of_ble_eq_true rfl)) d_SE_chooseSlice_163 ⟨(by show (acl (xs.length + x1.length) - acl xs.length) ≤ (acl (xs.length + (if hdK x.2 = 5 then (slc (ksR x.2).length o1 o2 o3).map (kidL x) else []).length) - acl xs.length); omega), (by show (asl (xs.length + x1.length) - asl xs.length) ≤ (asl (xs.length + (if hdK x.2 = 5 then (slc (ksR x.2).length o1 o2 o3).map (kidL x) else []).length) - asl xs.length); omega)⟩) (fun r33 hw34 => ?_)
                replace hw34 : r33 = some (ks.getD jn 0) := hw34
                clear hPc hKc
                obtain rfl := hw34
                refine W.eq (g2 := F0 m 166 ls [.ref (ks.getD jn 0), .ref pl]) rfl ?_
                refine va_castY (C := "PatchStore$Value") hx hb hown (htb _ m_1025) (nw_14 hE) (zz_recv hK hP (ci := 3) rfl (List.mem_append_right _ (hgr1 _ hc0))) d_SE_chooseSlice_166 ?_
                have hac1 := ac_mono (xs.length + x1.length) (by omega)
                have hau := ac_up xs.length (xs.length + x1.length) (by omega) (by omega)
                have hlx : (xs ++ x1).length = xs.length + x1.length := List.length_append
                rw [← hlx] at hac1 hau
                have hax0 : acl (xs.length + x1.length) = acl (xs ++ x1).length := by rw [hlx]
                have hay0 : asl (xs.length + x1.length) = asl (xs ++ x1).length := by rw [hlx]
                have hax2 : acl (xs.length + x1.length + 1) = acl ((xs ++ x1).length + 1) := by rw [hlx]
                have hay2 : asl (xs.length + x1.length + 1) = asl ((xs ++ x1).length + 1) := by rw [hlx]
                have hPc := zz_pickP (pre := []) (fz := (lz1 ++ fz)) (wc := []) hP [] rfl
                have hDc := zz_pickD (pre := []) (fz := (lz1 ++ fz)) (wc := []) hD [] (by decide) rfl
                have hFc := zz_free (pre := []) (fz := (lz1 ++ fz)) (wc := []) hD hS hA [] rfl
                have hKc := hK.sub (tys' := [(cO, .object "java/lang/Object")]) [1] rfl
                refine va_calli (va_runV (As := [.ref (ks.getD jn 0)]) (rest := []) ⟨hx, hb, hml, hown, htb⟩ (k_AL_add l dC dI _ pl (xs ++ x1) cO 3 (ks.getD jn 0) em aK aV lz1 fz Oci3 hiL ((hls.cat hi6).vin) ((hvt).vin) (by rw [List.length_append]; omega)) (cwV 1 htb (g_V (fun _ h => h) m_525 m_1026 m_523 m_524 m_8) rfl rfl rfl (by decide +kernel) ⟨Nat.le_of_ble_eq_true rfl, Nat.le_of_ble_eq_true rfl⟩) ⟨fun a U g mk q => by obtain ⟨q0, q1, qP, qK, qD, z0⟩ := q; exact ⟨q0, q1, qP, va_K.moved (u := U) (U := U.calling g mk a) (Vm.Alike.refl U.vm) qK, qD, EX.same (U := U) (U' := U.calling g mk a) rfl z0⟩, (hiL.frozen).recv hK hP (fun q hq => List.mem_append_right _ (List.mem_append_left _ hq)), fun U hU hW => ⟨rfl, by rw [hU], by rw [hU]; exact hPc, va_K.moved hW.alike hKc, hDc.weaken (fun _ _ _ _ => trivial), by rw [hU]; exact EX.warm hW ((hE.kept (fun a h1 h2 => hS.2.1 a h1 h2)).narrow hFc)⟩⟩ rfl rfl hl.1 rfl (lv_room (Nat.le_of_ble_eq_true rfl)) d_SE_chooseSlice_169 ⟨(by show ((acl (xs.length + x1.length) - acl xs.length) + (acl ((xs ++ x1).length + 1) - acl (xs ++ x1).length)) ≤ (acl (xs.length + (if hdK x.2 = 5 then (slc (ksR x.2).length o1 o2 o3).map (kidL x) else []).length) - acl xs.length); omega), (by show ((asl (xs.length + x1.length) - asl xs.length) + (asl ((xs ++ x1).length + 1) - asl (xs ++ x1).length)) ≤ (asl (xs.length + (if hdK x.2 = 5 then (slc (ksR x.2).length o1 o2 o3).map (kidL x) else []).length) - asl xs.length); omega)⟩) hS (fun q _ h => hFc q h) hFc (fun r36 u35 t H1 locs ht hvm hw37 hB hz1 hk1 hS => ?_)
                obtain ⟨hP1, hK1, hD1⟩ := hB
                rw [ht] at hP1
                have hK1 := va_K.moved hvm.symm hK1
                replace hw37 : ALc cO em pl ((xs ++ x1) ++ [(ks.getD jn 0)]) u35 := hw37
                obtain ⟨hP, hD⟩ := zz_join (pre := []) (fz := (lz1 ++ fz)) (wc := []) (wr := []) (w1 := ([] ++ (u35 ++ fz))) hP hD [] [] rfl rfl (by decide) (by decide) hk1 hFc hP1 hD1
                have hK := (hK.sub (tys' := [(cB, .byte)]) [0] rfl).app hK1
                generalize H1 = H at hP hS ⊢
                replace hP : va_P (dC, dI) vwCl ([] ++ (u35 ++ fz)) H := hP
                replace hD : va_D A ([] ++ (u35 ++ fz)) := hD
                replace hK : va_K (dC, dI) vwCl [(cB, .byte), (cO, .object "java/lang/Object")] s := hK
                clear hPc hDc hFc hKc hP1 hD1 hK1 hk1 hz1 ht hvm
                have hal9 : ALc cO em pl (xs ++ (x1 ++ [(ks.getD jn 0)])) u35 := by rw [← List.append_assoc]; exact hw37
                have hxl : (x1 ++ [(ks.getD jn 0)]).length = x1.length + 1 := by simp
                have hax : acl (xs.length + (x1 ++ [(ks.getD jn 0)]).length) = acl ((xs ++ x1).length + 1) := by rw [hxl, hlx]; rfl
                have hay : asl (xs.length + (x1 ++ [(ks.getD jn 0)]).length) = asl ((xs ++ x1).length + 1) := by rw [hxl, hlx]; rfl
                refine lv_pop hx hb d_SE_chooseSlice_172 rfl ?_
                refine lv_iload hx hb d_SE_chooseSlice_173 (lv_at hl 0 rfl) ?_
                refine lv_iload_n hx hb d_SE_chooseSlice_175 rfl (lv_at hl 2 rfl) ?_
                refine lv_iadd hx hb d_SE_chooseSlice_176 ?_
                refine W.eq (congrArg (fun z => F0 m 177 ls (.int z :: [])) (iI_add _ _ : ((iI jj) + (iI (o3.getD 1))) = iI (jj + o3.getD 1))) ?_
                refine lv_istore hx hb d_SE_chooseSlice_177 hl (by decide) rfl (fun ls hl => ?_)
                replace hl : lv_has ls 7 [(6, .int (iI (jj + o3.getD 1))), (5, .int (iI (bnd o2 ks.length (-1) ((ks.length : Int) - 1) (-1)))), (3, .int (iI (o3.getD 1))), (2, .ref pl), (1, .ref a), (0, .ref o)] := hl
                refine lv_goto (tgt := 149) hx hb d_SE_chooseSlice_179 rfl ?_
                refine W.widen (k := (acl (xs.length + (x1 ++ [(ks.getD jn 0)]).length) - acl xs.length)) (n := (asl (xs.length + (x1 ++ [(ks.getD jn 0)]).length) - asl xs.length)) (by omega) (by omega) ?_
                exact ih (((jj + o3.getD 1) - (bnd o2 ks.length (-1) ((ks.length : Int) - 1) (-1))).toNat) (by omega) (jj + o3.getD 1) f2 (dn ++ [jn]) u35 (x1 ++ [(ks.getD jn 0)]) H locs ls rfl (by omega) (by omega) (by omega) (by rw [hst, List.append_assoc, hjn]; rfl) (hal9) (by rw [List.map_append]; exact hi6.app (p := kidL x jn) (by omega) (kid_le hv (by omega) h32) hvt) (lv_sub hl [0, 1, 2, 3, 4, 5] rfl) (zz_pickP (pre := []) (fz := (u35 ++ fz)) (wc := []) hP [] rfl) (zz_pickD (pre := []) (fz := (u35 ++ fz)) (wc := []) hD [] (by decide) rfl) hS
          refine W.widen (k := (acl (xs.length + ([] : List Nat).length) - acl xs.length)) (n := (asl (xs.length + ([] : List Nat).length) - asl xs.length)) (by omega) (by omega) ?_
          exact hloop _ (bnd o1 ks.length (-1) ((ks.length : Int) - 1) ((ks.length : Int) - 1)) (ks.length + 1) ([]) lz ([] : List Nat) _ _ ls rfl (by omega) (by omega) (by omega) (rfl) (by rw [List.append_nil]; exact hal) (VLS.nil) (lv_sub hl [0, 1, 3, 6, 5, 4] rfl) (zz_pickP (pre := []) (fz := (lz ++ fz)) (wc := []) hP [] rfl) (zz_pickD (pre := []) (fz := (lz ++ fz)) (wc := []) hD [] (by decide) rfl) hS
        · have hpp : 0 < o3.getD 1 := Int.not_le.mp (fun h => h7 ((iI_leI (y := 0) (by omega) (by omega) (by decide) (by decide)).mpr h))
          have hslc : slc ks.length o1 o2 (some (o3.getD 1)) = stU (ks.length + 1) (bnd o1 ks.length 0 (ks.length : Int) 0) (bnd o2 ks.length 0 (ks.length : Int) (ks.length : Int)) (o3.getD 1) := slc_pos hpp
          have hfr : 0 ≤ (bnd o1 ks.length 0 (ks.length : Int) 0) ∧ (bnd o1 ks.length 0 (ks.length : Int) 0) ≤ (ks.length : Int) := by unfold bnd; split <;> constructor <;> omega
          have hto : 0 ≤ (bnd o2 ks.length 0 (ks.length : Int) (ks.length : Int)) ∧ (bnd o2 ks.length 0 (ks.length : Int) (ks.length : Int)) ≤ (ks.length : Int) := by unfold bnd; split <;> constructor <;> omega
          have hnm1 : nI ks.length - 1 = iI ((ks.length : Int) - 1) := by rw [← iI_nat]; show iI _ - iI 1 = _; exact (Int32.ofInt_sub ..).symm
          refine lv_aload_n hx hb d_SE_chooseSlice_45 rfl (lv_at hl 2 rfl) ?_
          obtain ⟨qz26, hz26⟩ := List.getElem?_of_mem (List.mem_append_right [] (hgr _ hsc))
          refine va_get (D := (dC, dI)) (ci := 10) (v := .int (ixI o2)) (C := R_SE) (T := T_SE) (N := 6) hx hb htb in_SE hown hK hP qz26 hz26 rfl 3 (by decide) (htb _ m_902) (fun _ h9 => h9) rfl d_SE_chooseSlice_46 ?_
          refine lv_iload hx hb d_SE_chooseSlice_49 (lv_at hl 0 rfl) ?_
          refine lv_iconst (v := 0) hx hb d_SE_chooseSlice_51 (by decide) ?_
          refine lv_iload hx hb d_SE_chooseSlice_52 (lv_at hl 0 rfl) ?_
          refine lv_iload hx hb d_SE_chooseSlice_54 (lv_at hl 0 rfl) ?_
          refine W.eq (g2 := F0 m 56 ls [.int (iI (ks.length : Int)), .int (iI (ks.length : Int)), .int (iI 0), .int (nI ks.length), .int (ixI o2)]) (by rw [iI_nat ks.length]; rfl) ?_
          have hPc : va_P (dC, dI) vwCl [] _ := hP.sub (ws' := []) [] rfl
          have hKc := hK.sub (tys' := []) [] rfl
          refine vp_callSi (W.runS (As := [.int (ixI o2), .int (nI ks.length), .int (iI 0), .int (iI (ks.length : Int)), .int (iI (ks.length : Int))]) (rest := []) ⟨hx, hb, hml, hown, htb⟩ (q_SE_bound l dC dI o2 ks.length 0 (ks.length : Int) (ks.length : Int) hr2 (by omega) (by omega) (by omega) (by omega) (by omega)) (va_cwS 5 htb (g_S (fun _ h => h) m_1021 m_1019 m_1020 m_26) rfl rfl rfl (by decide +kernel) ⟨Nat.le_of_ble_eq_true rfl, Nat.le_of_ble_eq_true rfl⟩) ⟨fun a U g mk q => by obtain ⟨q0, qP, qK⟩ := q; exact ⟨q0, qP, va_K.moved (u := U) (U := U.calling g mk a) (Vm.Alike.refl U.vm) qK⟩, fun U hU hW => ⟨rfl, by rw [hU]; exact hPc, va_K.moved hW.alike hKc⟩⟩ rfl rfl hl.1 rfl (lv_room (Nat.le_of_ble_eq_true rfl)) d_SE_chooseSlice_56 ⟨(by show 0 ≤ (acl (xs.length + (if hdK x.2 = 5 then (slc (ksR x.2).length o1 o2 o3).map (kidL x) else []).length) - acl xs.length); omega), (by show 0 ≤ (asl (xs.length + (if hdK x.2 = 5 then (slc (ksR x.2).length o1 o2 o3).map (kidL x) else []).length) - asl xs.length); omega)⟩) (fun r27 hw28 => ?_)
          replace hw28 : r27 = iI (bnd o2 ks.length 0 (ks.length : Int) (ks.length : Int)) := hw28
          clear hPc hKc
          obtain rfl := hw28
          refine lv_istore hx hb d_SE_chooseSlice_59 hl (by decide) rfl (fun ls hl => ?_)
          replace hl : lv_has ls 7 [(5, .int (iI (bnd o2 ks.length 0 (ks.length : Int) (ks.length : Int)))), (4, .int (nI ks.length)), (3, .int (iI (o3.getD 1))), (0, .ref o), (1, .ref a), (2, .ref pl)] := hl
          refine lv_aload_n hx hb d_SE_chooseSlice_61 rfl (lv_at hl 3 rfl) ?_
          obtain ⟨qz29, hz29⟩ := List.getElem?_of_mem (List.mem_append_right [] (hgr _ hsc))
          refine va_get (D := (dC, dI)) (ci := 10) (v := .int (ixI o1)) (C := R_SE) (T := T_SE) (N := 6) hx hb htb in_SE hown hK hP qz29 hz29 rfl 2 (by decide) (htb _ m_901) (fun _ h9 => h9) rfl d_SE_chooseSlice_62 ?_
          refine lv_iload hx hb d_SE_chooseSlice_65 (lv_at hl 1 rfl) ?_
          refine lv_iconst (v := 0) hx hb d_SE_chooseSlice_67 (by decide) ?_
          refine lv_iload hx hb d_SE_chooseSlice_68 (lv_at hl 1 rfl) ?_
          refine lv_iconst (v := 0) hx hb d_SE_chooseSlice_70 (by decide) ?_
          refine W.eq (g2 := F0 m 71 ls [.int (iI 0), .int (iI (ks.length : Int)), .int (iI 0), .int (nI ks.length), .int (ixI o1)]) (by rw [iI_nat ks.length]; rfl) ?_
          have hPc : va_P (dC, dI) vwCl [] _ := hP.sub (ws' := []) [] rfl
          have hKc := hK.sub (tys' := []) [] rfl
          refine vp_callSi (W.runS (As := [.int (ixI o1), .int (nI ks.length), .int (iI 0), .int (iI (ks.length : Int)), .int (iI 0)]) (rest := []) ⟨hx, hb, hml, hown, htb⟩ (q_SE_bound l dC dI o1 ks.length 0 (ks.length : Int) 0 hr1 (by omega) (by omega) (by omega) (by omega) (by omega)) (va_cwS 5 htb (g_S (fun _ h => h) m_1021 m_1019 m_1020 m_26) rfl rfl rfl (by decide +kernel) ⟨Nat.le_of_ble_eq_true rfl, Nat.le_of_ble_eq_true rfl⟩) ⟨fun a U g mk q => by obtain ⟨q0, qP, qK⟩ := q; exact ⟨q0, qP, va_K.moved (u := U) (U := U.calling g mk a) (Vm.Alike.refl U.vm) qK⟩, fun U hU hW => ⟨rfl, by rw [hU]; exact hPc, va_K.moved hW.alike hKc⟩⟩ rfl rfl hl.1 rfl (lv_room (Nat.le_of_ble_eq_true rfl)) d_SE_chooseSlice_71 ⟨(by show 0 ≤ (acl (xs.length + (if hdK x.2 = 5 then (slc (ksR x.2).length o1 o2 o3).map (kidL x) else []).length) - acl xs.length); omega), (by show 0 ≤ (asl (xs.length + (if hdK x.2 = 5 then (slc (ksR x.2).length o1 o2 o3).map (kidL x) else []).length) - asl xs.length); omega)⟩) (fun r30 hw31 => ?_)
          replace hw31 : r30 = iI (bnd o1 ks.length 0 (ks.length : Int) 0) := hw31
          clear hPc hKc
          obtain rfl := hw31
          refine lv_istore hx hb d_SE_chooseSlice_74 hl (by decide) rfl (fun ls hl => ?_)
          replace hl : lv_has ls 7 [(6, .int (iI (bnd o1 ks.length 0 (ks.length : Int) 0))), (5, .int (iI (bnd o2 ks.length 0 (ks.length : Int) (ks.length : Int)))), (4, .int (nI ks.length)), (3, .int (iI (o3.getD 1))), (0, .ref o), (1, .ref a), (2, .ref pl)] := hl
          have hloop : ∀ (k9 : Nat) (jj : Int) (ff : Nat) (dn : List Nat) (lz1 : va_W) (x1 : List Nat) (H : Heap) (locs : List Loc) (ls : Array Slot), ((bnd o2 ks.length 0 (ks.length : Int) (ks.length : Int)) - jj).toNat = k9 → (0 ≤ jj) → (jj ≤ 2000) → (((bnd o2 ks.length 0 (ks.length : Int) (ks.length : Int)) - jj).toNat < ff) → (stU (ks.length + 1) (bnd o1 ks.length 0 (ks.length : Int) 0) (bnd o2 ks.length 0 (ks.length : Int) (ks.length : Int)) (o3.getD 1) = dn ++ stU ff jj (bnd o2 ks.length 0 (ks.length : Int) (ks.length : Int)) (o3.getD 1)) → (ALc cO em pl (xs ++ x1) lz1) → (VLS cB cO em aK fz x1 (dn.map (kidL x))) → lv_has ls 7 [(6, .int (iI jj)), (5, .int (iI (bnd o2 ks.length 0 (ks.length : Int) (ks.length : Int)))), (3, .int (iI (o3.getD 1))), (2, .ref pl), (1, .ref a), (0, .ref o)] → va_P (dC, dI) vwCl ([] ++ (lz1 ++ fz)) H → va_D A ([] ++ (lz1 ++ fz)) → va_S A s.heap H locs → W p l e (headSpec ws_SE_chooseSlice ({ frames := 7, cells := (acl (xs.length + (if hdK x.2 = 5 then (slc (ksR x.2).length o1 o2 o3).map (kidL x) else []).length) - acl xs.length), slots := (asl (xs.length + (if hdK x.2 = 5 then (slc (ksR x.2).length o1 o2 o3).map (kidL x) else []).length) - asl xs.length), locals := 171 })).room s m args below meth c H locs (acl (xs.length + x1.length) - acl xs.length) (asl (xs.length + x1.length) - asl xs.length) Q (F0 m 76 ls []) := by
            intro k9
            induction k9 using Nat.strongRecOn with
            | ind k9 ih =>
              intro jj ff dn lz1 x1 H locs ls hk9 hk1 hk2 hff hst hiL hi6 hl hP hD hS
              have hlx1 : x1.length = dn.length := by have := hi6.1; rw [List.length_map] at this; exact this.symm
              have hdl : dn.length ≤ (slc ks.length o1 o2 (some (o3.getD 1))).length := by rw [hslc, hst, List.length_append]; omega
              have hsll := slc_len (n := ks.length) (a := o1) (b := o2) (c := some (o3.getD 1))
              have hSL : (if hdK x.2 = 5 then (slc (ksR x.2).length o1 o2 o3).map (kidL x) else []).length = (slc ks.length o1 o2 (some (o3.getD 1))).length := by rw [hsl1, List.length_map]
              have hup := ac_up (xs.length + x1.length) (xs.length + (if hdK x.2 = 5 then (slc (ksR x.2).length o1 o2 o3).map (kidL x) else []).length) (by omega) (by omega)
              have hgr1 : ∀ q ∈ fz, q ∈ (lz1 ++ fz) := fun q hq => List.mem_append_right _ hq
              have hkl9 := hkl.mono hgr1
              refine lv_iload hx hb d_SE_chooseSlice_76 (lv_at hl 0 rfl) ?_
              refine lv_iload hx hb d_SE_chooseSlice_78 (lv_at hl 1 rfl) ?_
              refine lv_icmp_ge (tgt := 109) hx hb d_SE_chooseSlice_80 rfl (fun h7 => ?_) (fun h7 => ?_)
              · have h7 : (bnd o2 ks.length 0 (ks.length : Int) (ks.length : Int)) ≤ jj := (iI_leI (by omega) (by omega) (by omega) (by omega)).mp h7
                have hnc : ¬ (if 0 < o3.getD 1 then jj < (bnd o2 ks.length 0 (ks.length : Int) (ks.length : Int)) else (bnd o2 ks.length 0 (ks.length : Int) (ks.length : Int)) < jj) := by rw [if_pos hpp]; omega
                rw [stU_no hnc, List.append_nil] at hst
                refine lv_goto (tgt := 182) hx hb d_SE_chooseSlice_109 rfl ?_
                have hP9 := zz_pickP (pre := []) (fz := (lz1 ++ fz)) (wc := []) hP [] rfl
                have hD9 := zz_pickD (pre := []) (fz := (lz1 ++ fz)) (wc := []) hD [] (by decide) rfl
                have hK9 := hK.sub (tys' := [(cB, .byte), (cO, .object "java/lang/Object")]) [0, 1] rfl
                rw [hQ]
                refine W.widen (k := (acl (xs.length + (if hdK x.2 = 5 then (slc (ksR x.2).length o1 o2 o3).map (kidL x) else []).length) - acl xs.length)) (n := (asl (xs.length + (if hdK x.2 = 5 then (slc (ksR x.2).length o1 o2 o3).map (kidL x) else []).length) - asl xs.length)) ((by show (acl (xs.length + x1.length) - acl xs.length) ≤ (acl (xs.length + (if hdK x.2 = 5 then (slc (ksR x.2).length o1 o2 o3).map (kidL x) else []).length) - acl xs.length); omega)) ((by show (asl (xs.length + x1.length) - asl xs.length) ≤ (asl (xs.length + (if hdK x.2 = 5 then (slc (ksR x.2).length o1 o2 o3).map (kidL x) else []).length) - asl xs.length); omega)) ?_
                exact W.vret hx hb hr (fun t ht hW => ⟨⟨(lz1, x1), rfl, ⟨hiL, by rw [hsl1, hslc, hst]; exact hi6⟩, ⟨by rw [ht]; exact hP9, va_K.moved hW.alike hK9, hD9⟩⟩, hS.F ht⟩) hS.2.2 d_SE_chooseSlice_182
              · have h7 : jj < (bnd o2 ks.length 0 (ks.length : Int) (ks.length : Int)) := Int.not_le.mp (fun h => h7 ((iI_leI (by omega) (by omega) (by omega) (by omega)).mpr h))
                have hcc : (if 0 < o3.getD 1 then jj < (bnd o2 ks.length 0 (ks.length : Int) (ks.length : Int)) else (bnd o2 ks.length 0 (ks.length : Int) (ks.length : Int)) < jj) := by rw [if_pos hpp]; omega
                obtain ⟨f2, rfl⟩ : ∃ f2, ff = f2 + 1 := ⟨ff - 1, by omega⟩
                rw [stU_go hcc] at hst
                have hdl2 : dn.length + 1 ≤ (slc ks.length o1 o2 (some (o3.getD 1))).length := by rw [hslc, hst, List.length_append, List.length_cons]; omega
                have hup2 := ac_up (xs.length + x1.length + 1) (xs.length + (if hdK x.2 = 5 then (slc (ksR x.2).length o1 o2 o3).map (kidL x) else []).length) (by omega) (by omega)
                obtain ⟨jn, hjn⟩ := Int.eq_ofNat_of_zero_le (show 0 ≤ jj by omega)
                have hjl : jn < ks.length := by omega
                have hvt := hvl jn hjl
                obtain ⟨kd0, tx0, nu0, nm0, pa0, dp0, cn0, hc0, hn0⟩ := hvt.cellN
                refine lv_aload_n hx hb d_SE_chooseSlice_83 rfl (lv_at hl 3 rfl) ?_
                refine lv_aload_n hx hb d_SE_chooseSlice_84 rfl (lv_at hl 4 rfl) ?_
                obtain ⟨qz32, hz32⟩ := List.getElem?_of_mem (List.mem_append_right [] (hgr1 _ hc))
                refine va_get (D := (dC, dI)) (ci := 3) (v := .ref pa) (C := R_VA) (T := T_VA) (N := 7) hx hb htb in_VA hown hK hP qz32 hz32 rfl 4 (by decide) (htb _ m_398) (fun _ h9 => h9) rfl d_SE_chooseSlice_85 ?_
                refine lv_iload hx hb d_SE_chooseSlice_88 (lv_at hl 0 rfl) ?_
                refine W.eq (congrArg (fun z => F0 m 90 ls (.int z :: [.ref pa, .ref pl])) (by rw [hjn]; exact iI_nat jn : (iI jj) = nI jn)) ?_
                have hPc : va_P (dC, dI) vwCl ([] ++ (lz1 ++ fz)) _ := zz_tlP (pre := []) (tl := (lz1 ++ fz)) hP
                have hKc := hK.sub (tys' := [(cO, .object "java/lang/Object")]) [1] rfl
                refine va_csq (W.runV (As := [.int (nI jn)]) (rest := [.ref pl]) ⟨hx, hb, hml, hown, htb⟩ (z_AL_get l dC dI pa ks cO em jn (lz1 ++ fz) hkl9 hjl) (cwV 1 htb (g_V (fun _ h => h) m_490 m_1024 m_488 m_489 m_8) rfl rfl rfl (by decide +kernel) ⟨Nat.le_of_ble_eq_true rfl, Nat.le_of_ble_eq_true rfl⟩) ⟨fun a U g mk q => by obtain ⟨q0, qP, qK⟩ := q; exact ⟨q0, qP, va_K.moved (u := U) (U := U.calling g mk a) (Vm.Alike.refl U.vm) qK⟩, (hkl9).recv hK hP (fun q hq => List.mem_append_right _ hq), fun U hU hW => ⟨rfl, by rw [hU]; exact hPc, va_K.moved hW.alike hKc⟩⟩ rfl rfl hl.1 rfl (lv_room (Nat.le_of_ble_eq_true rfl)) d_SE_chooseSlice_90 ⟨(by show (acl (xs.length + x1.length) - acl xs.length) ≤ (acl (xs.length + (if hdK x.2 = 5 then (slc (ksR x.2).length o1 o2 o3).map (kidL x) else []).length) - acl xs.length); omega), (by show (asl (xs.length + x1.length) - asl xs.length) ≤ (asl (xs.length + (if hdK x.2 = 5 then (slc (ksR x.2).length o1 o2 o3).map (kidL x) else []).length) - asl xs.length); omega)⟩) (fun r33 hw34 => ?_)
                replace hw34 : r33 = some (ks.getD jn 0) := hw34
                clear hPc hKc
                obtain rfl := hw34
                refine W.eq (g2 := F0 m 93 ls [.ref (ks.getD jn 0), .ref pl]) rfl ?_
                refine va_castY (C := "PatchStore$Value") hx hb hown (htb _ m_1025) (nw_14 hE) (zz_recv hK hP (ci := 3) rfl (List.mem_append_right _ (hgr1 _ hc0))) d_SE_chooseSlice_93 ?_
                have hac1 := ac_mono (xs.length + x1.length) (by omega)
                have hau := ac_up xs.length (xs.length + x1.length) (by omega) (by omega)
                have hlx : (xs ++ x1).length = xs.length + x1.length := List.length_append
                rw [← hlx] at hac1 hau
                have hax0 : acl (xs.length + x1.length) = acl (xs ++ x1).length := by rw [hlx]
                have hay0 : asl (xs.length + x1.length) = asl (xs ++ x1).length := by rw [hlx]
                have hax2 : acl (xs.length + x1.length + 1) = acl ((xs ++ x1).length + 1) := by rw [hlx]
                have hay2 : asl (xs.length + x1.length + 1) = asl ((xs ++ x1).length + 1) := by rw [hlx]
                have hPc := zz_pickP (pre := []) (fz := (lz1 ++ fz)) (wc := []) hP [] rfl
                have hDc := zz_pickD (pre := []) (fz := (lz1 ++ fz)) (wc := []) hD [] (by decide) rfl
                have hFc := zz_free (pre := []) (fz := (lz1 ++ fz)) (wc := []) hD hS hA [] rfl
                have hKc := hK.sub (tys' := [(cO, .object "java/lang/Object")]) [1] rfl
                refine va_calli (va_runV (As := [.ref (ks.getD jn 0)]) (rest := []) ⟨hx, hb, hml, hown, htb⟩ (k_AL_add l dC dI _ pl (xs ++ x1) cO 3 (ks.getD jn 0) em aK aV lz1 fz Oci3 hiL ((hls.cat hi6).vin) ((hvt).vin) (by rw [List.length_append]; omega)) (cwV 1 htb (g_V (fun _ h => h) m_525 m_1026 m_523 m_524 m_8) rfl rfl rfl (by decide +kernel) ⟨Nat.le_of_ble_eq_true rfl, Nat.le_of_ble_eq_true rfl⟩) ⟨fun a U g mk q => by obtain ⟨q0, q1, qP, qK, qD, z0⟩ := q; exact ⟨q0, q1, qP, va_K.moved (u := U) (U := U.calling g mk a) (Vm.Alike.refl U.vm) qK, qD, EX.same (U := U) (U' := U.calling g mk a) rfl z0⟩, (hiL.frozen).recv hK hP (fun q hq => List.mem_append_right _ (List.mem_append_left _ hq)), fun U hU hW => ⟨rfl, by rw [hU], by rw [hU]; exact hPc, va_K.moved hW.alike hKc, hDc.weaken (fun _ _ _ _ => trivial), by rw [hU]; exact EX.warm hW ((hE.kept (fun a h1 h2 => hS.2.1 a h1 h2)).narrow hFc)⟩⟩ rfl rfl hl.1 rfl (lv_room (Nat.le_of_ble_eq_true rfl)) d_SE_chooseSlice_96 ⟨(by show ((acl (xs.length + x1.length) - acl xs.length) + (acl ((xs ++ x1).length + 1) - acl (xs ++ x1).length)) ≤ (acl (xs.length + (if hdK x.2 = 5 then (slc (ksR x.2).length o1 o2 o3).map (kidL x) else []).length) - acl xs.length); omega), (by show ((asl (xs.length + x1.length) - asl xs.length) + (asl ((xs ++ x1).length + 1) - asl (xs ++ x1).length)) ≤ (asl (xs.length + (if hdK x.2 = 5 then (slc (ksR x.2).length o1 o2 o3).map (kidL x) else []).length) - asl xs.length); omega)⟩) hS (fun q _ h => hFc q h) hFc (fun r36 u35 t H1 locs ht hvm hw37 hB hz1 hk1 hS => ?_)
                obtain ⟨hP1, hK1, hD1⟩ := hB
                rw [ht] at hP1
                have hK1 := va_K.moved hvm.symm hK1
                replace hw37 : ALc cO em pl ((xs ++ x1) ++ [(ks.getD jn 0)]) u35 := hw37
                obtain ⟨hP, hD⟩ := zz_join (pre := []) (fz := (lz1 ++ fz)) (wc := []) (wr := []) (w1 := ([] ++ (u35 ++ fz))) hP hD [] [] rfl rfl (by decide) (by decide) hk1 hFc hP1 hD1
                have hK := (hK.sub (tys' := [(cB, .byte)]) [0] rfl).app hK1
                generalize H1 = H at hP hS ⊢
                replace hP : va_P (dC, dI) vwCl ([] ++ (u35 ++ fz)) H := hP
                replace hD : va_D A ([] ++ (u35 ++ fz)) := hD
                replace hK : va_K (dC, dI) vwCl [(cB, .byte), (cO, .object "java/lang/Object")] s := hK
                clear hPc hDc hFc hKc hP1 hD1 hK1 hk1 hz1 ht hvm
                have hal9 : ALc cO em pl (xs ++ (x1 ++ [(ks.getD jn 0)])) u35 := by rw [← List.append_assoc]; exact hw37
                have hxl : (x1 ++ [(ks.getD jn 0)]).length = x1.length + 1 := by simp
                have hax : acl (xs.length + (x1 ++ [(ks.getD jn 0)]).length) = acl ((xs ++ x1).length + 1) := by rw [hxl, hlx]; rfl
                have hay : asl (xs.length + (x1 ++ [(ks.getD jn 0)]).length) = asl ((xs ++ x1).length + 1) := by rw [hxl, hlx]; rfl
                refine lv_pop hx hb d_SE_chooseSlice_99 rfl ?_
                refine lv_iload hx hb d_SE_chooseSlice_100 (lv_at hl 0 rfl) ?_
                refine lv_iload_n hx hb d_SE_chooseSlice_102 rfl (lv_at hl 2 rfl) ?_
                refine lv_iadd hx hb d_SE_chooseSlice_103 ?_
                refine W.eq (congrArg (fun z => F0 m 104 ls (.int z :: [])) (iI_add _ _ : ((iI jj) + (iI (o3.getD 1))) = iI (jj + o3.getD 1))) ?_
                refine lv_istore hx hb d_SE_chooseSlice_104 hl (by decide) rfl (fun ls hl => ?_)
                replace hl : lv_has ls 7 [(6, .int (iI (jj + o3.getD 1))), (5, .int (iI (bnd o2 ks.length 0 (ks.length : Int) (ks.length : Int)))), (3, .int (iI (o3.getD 1))), (2, .ref pl), (1, .ref a), (0, .ref o)] := hl
                refine lv_goto (tgt := 76) hx hb d_SE_chooseSlice_106 rfl ?_
                refine W.widen (k := (acl (xs.length + (x1 ++ [(ks.getD jn 0)]).length) - acl xs.length)) (n := (asl (xs.length + (x1 ++ [(ks.getD jn 0)]).length) - asl xs.length)) (by omega) (by omega) ?_
                exact ih (((bnd o2 ks.length 0 (ks.length : Int) (ks.length : Int)) - (jj + o3.getD 1)).toNat) (by omega) (jj + o3.getD 1) f2 (dn ++ [jn]) u35 (x1 ++ [(ks.getD jn 0)]) H locs ls rfl (by omega) (by omega) (by omega) (by rw [hst, List.append_assoc, hjn]; rfl) (hal9) (by rw [List.map_append]; exact hi6.app (p := kidL x jn) (by omega) (kid_le hv (by omega) h32) hvt) (lv_sub hl [0, 1, 2, 3, 4, 5] rfl) (zz_pickP (pre := []) (fz := (u35 ++ fz)) (wc := []) hP [] rfl) (zz_pickD (pre := []) (fz := (u35 ++ fz)) (wc := []) hD [] (by decide) rfl) hS
          refine W.widen (k := (acl (xs.length + ([] : List Nat).length) - acl xs.length)) (n := (asl (xs.length + ([] : List Nat).length) - asl xs.length)) (by omega) (by omega) ?_
          exact hloop _ (bnd o1 ks.length 0 (ks.length : Int) 0) (ks.length + 1) ([]) lz ([] : List Nat) _ _ ls rfl (by omega) (by omega) (by omega) (rfl) (by rw [List.append_nil]; exact hal) (VLS.nil) (lv_sub hl [0, 1, 3, 6, 5, 4] rfl) (zz_pickP (pre := []) (fz := (lz ++ fz)) (wc := []) hP [] rfl) (zz_pickD (pre := []) (fz := (lz ++ fz)) (wc := []) hD [] (by decide) rfl) hS
      · have h6 : o3.getD 1 = 0 := iI_eq0 (by omega) (by omega) (id h6)
        have hsl0 : (if hdK x.2 = 5 then (slc (ksR x.2).length o1 o2 o3).map (kidL x) else []) = [] := by rw [if_pos h5]; unfold slc; rw [if_pos h6]; rfl
        have hP9 := zz_pickP (pre := []) (fz := (lz ++ fz)) (wc := []) hP [] rfl
        have hD9 := zz_pickD (pre := []) (fz := (lz ++ fz)) (wc := []) hD [] (by decide) rfl
        have hK9 := hK.sub (tys' := [(cB, .byte), (cO, .object "java/lang/Object")]) [0, 1] rfl
        rw [hQ]
        refine W.widen (k := (acl (xs.length + (if hdK x.2 = 5 then (slc (ksR x.2).length o1 o2 o3).map (kidL x) else []).length) - acl xs.length)) (n := (asl (xs.length + (if hdK x.2 = 5 then (slc (ksR x.2).length o1 o2 o3).map (kidL x) else []).length) - asl xs.length)) ((by show 0 ≤ (acl (xs.length + (if hdK x.2 = 5 then (slc (ksR x.2).length o1 o2 o3).map (kidL x) else []).length) - acl xs.length); omega)) ((by show 0 ≤ (asl (xs.length + (if hdK x.2 = 5 then (slc (ksR x.2).length o1 o2 o3).map (kidL x) else []).length) - asl xs.length); omega)) ?_
        exact W.vret hx hb hr (fun t ht hW => ⟨⟨(lz, ([] : List Nat)), rfl, ⟨by rw [List.append_nil]; exact hal, by rw [hsl0]; exact VLS.nil⟩, ⟨by rw [ht]; exact hP9, va_K.moved hW.alike hK9, hD9⟩⟩, hS.F ht⟩) hS.2.2 d_SE_chooseSlice_31
