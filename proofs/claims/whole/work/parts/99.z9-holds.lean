set_option maxHeartbeats 1000000 in
set_option maxRecDepth 100000 in
/-- holds(value) -/
theorem k_TE_holds (l : Launch) (dC : Nat → ClassId) (dI : Nat → Nat → Nat) (sz : Nat) (o : Nat) (t0 : Tst) (a : Nat) (d : Nat) (nn : List Nat) (x : Plc) (cB : ClassId) (cO : ClassId) (em : Nat) (aK : Nat → Nat) (aV : Nat → Nat) (fz : va_W) (htz0 : TSz cB cO em aK fz t0 o) (hv : VT cB cO em aK (d + 1) fz a nn x.2) (hd9 : d ≤ 20) : Met l y_TE_holds ws_TE_holds ({ frames := 80, cells := 0, slots := 0, locals := 2300 }) (va_Pc [.ref o, .ref a] (fun U => U.heap.size = sz ∧ va_P (dC, dI) vwCl ([] ++ fz) U.heap ∧ va_K (dC, dI) vwCl [(cB, .byte), (cO, .object "java/lang/Object")] U ∧ va_D (fun _ => True) ([] ++ fz) ∧ EX em aK aV (va_A ([] ++ fz) sz) U U.heap)) (va_Qi (fun (r : Int32) (u : Unit) => r = bI (hld t0 x)) (fun u t => va_P (dC, dI) vwCl ([] ++ fz) t.heap ∧ va_K (dC, dI) vwCl [(cB, .byte), (cO, .object "java/lang/Object")] t ∧ va_D (va_A ([] ++ fz) sz) ([] ++ fz)) (va_A ([] ++ fz) sz)) 0 0 (va_A ([] ++ fz) sz) := by
  refine Met.ofW (cc := c_TE_holds) (maxL := 4) (ret := (some .boolean)) (by decide) rfl ?_
  intro p e s m args below meth c s₁ B hml hv
  obtain ⟨hargs, hsz, hP, hK, hD0, hE⟩ := hv
  rw [show entryFrame m args 4 = entryFrame m ([.ref o, .ref a]).toArray 4 by rw [hargs]]
  have hx := B.exec
  have hb := B.bytes
  have hr := B.returns
  have hts := atoms_spec (ws := ws_TE_holds) B.pre
  have htb := fun w (h : w ∈ TBL) => hts w (List.mem_cons_of_mem _ h)
  have hown : s.vm.findClass R_TE = some m.cls := findClass_of_methodNamed B.named
  have hlocks := B.notSynchronized
  subst hsz
  have hD := hD0.self (sz := s.heap.size)
  generalize hAe : va_A ([] ++ fz) s.heap.size = A at hD hE ⊢
  have hA : ∀ q : Nat, s.heap.size ≤ q → A q := fun q h => by rw [← hAe]; exact Or.inr h
  have hS : va_S A s.heap s.heap [] := va_S.rf
  have hP : va_P (dC, dI) vwCl ([] ++ fz) s.heap := hP
  have hl := lv_entry ([.ref o, .ref a]) (n := 4) (Nat.le_of_ble_eq_true rfl)
  rw [lg_entry_eq]
  generalize (lg_sl ([.ref o, .ref a]) ++ List.replicate (4 - (lg_sl ([.ref o, .ref a])).length) Slot.unset).toArray = ls at hl ⊢
  replace hl : lv_has ls 4 [(0, .ref o), (1, .ref a)] := hl
  refine zz_nQ (fun Q hQ => ?_)
  obtain ⟨al, ⟨xs, hal, hxl, hxs⟩, hcase⟩ := htz0
  have h160 := hal.1
  rcases hcase with hcase | hcase
  · obtain ⟨hs0, hoc⟩ := hcase
    refine lv_aload_n hx hb d_TE_holds_0 rfl (lv_at hl 1 rfl) ?_
    refine lv_astore_n hx hb d_TE_holds_1 rfl hl (by decide) rfl (fun ls hl => ?_)
    replace hl : lv_has ls 4 [(2, .ref a), (0, .ref o), (1, .ref a)] := hl
    refine lv_iconst (v := 0) hx hb d_TE_holds_2 (by decide) ?_
    refine lv_istore_n hx hb d_TE_holds_3 rfl hl (by decide) rfl (fun ls hl => ?_)
    replace hl : lv_has ls 4 [(3, .int 0), (2, .ref a), (0, .ref o), (1, .ref a)] := hl
    replace hl : lv_has ls 4 [(3, .int (nI 0)), (2, .ref a), (0, .ref o), (1, .ref a)] := hl
    have hjoinN : ∀  (H : Heap) (locs : List Loc) (ls : Array Slot), (accs t0.1 x = none) → lv_has ls 4 [(2, .null), (1, .ref a), (0, .ref o)] → va_P (dC, dI) vwCl ([] ++ fz) H → va_D A ([] ++ fz) → va_S A s.heap H locs → W p l e (headSpec ws_TE_holds ({ frames := 80, cells := 0, slots := 0, locals := 2300 })).room s m args below meth c H locs 0 0 Q (F0 m 41 ls []) := by
      intro  H locs ls hno hl hP hD hS
      refine lv_aload_nN hx hb d_TE_holds_41 rfl (lv_at hl 0 rfl) ?_
      refine lv_ifnonnullN hx hb d_TE_holds_42 ?_
      refine lv_aload_n hx hb d_TE_holds_45 rfl (lv_at hl 2 rfl) ?_
      obtain ⟨qz21, hz21⟩ := List.getElem?_of_mem (List.mem_append_right [] hoc)
      refine va_get (D := (dC, dI)) (ci := 11) (v := .int 0) (C := R_TE) (T := T_TE) (N := 3) hx hb htb in_TE hown hK hP qz21 hz21 rfl 1 (by decide) (htb _ m_975) (fun _ h9 => h9) rfl d_TE_holds_46 ?_
      refine lv_iconst (v := 2) hx hb d_TE_holds_49 (by decide) ?_
      refine lv_icmp_ne (tgt := 57) hx hb d_TE_holds_50 rfl (fun _ => ?_) (fun h9 => absurd h9 (by decide))
      refine lv_iconst (v := 0) hx hb d_TE_holds_57 (by decide) ?_
      have hP9 := zz_pickP (pre := []) (fz := fz) (wc := []) hP [] rfl
      have hD9 := zz_pickD (pre := []) (fz := fz) (wc := []) hD [] (by decide) rfl
      have hK9 := hK.sub (tys' := [(cB, .byte), (cO, .object "java/lang/Object")]) [0, 1] rfl
      rw [hQ]
      refine W.widen (k := 0) (n := 0) (Nat.le_of_ble_eq_true rfl) (Nat.le_of_ble_eq_true rfl) ?_
      exact W.zret (v := 0) hx hb hr (by decide) (fun t ht hW => ⟨⟨0, (), rfl, by rw [hld_no hno, decide_eq_false (by omega)]; rfl, ⟨by rw [ht]; exact hP9, va_K.moved hW.alike hK9, hD9⟩⟩, hS.F ht⟩) hS.2.2 d_TE_holds_58
    have hloop : ∀ (k9 : Nat) (i : Nat) (ya : Nat) (y : Plc) (dy : Nat) (ny : List Nat) (H : Heap) (locs : List Loc) (ls : Array Slot), xs.length - i = k9 → (i ≤ xs.length) → (accs (t0.1.take i) x = some y) → (VT cB cO em aK dy fz ya ny y.2) → (dy ≤ 21) → lv_has ls 4 [(3, .int (nI i)), (2, .ref ya), (1, .ref a), (0, .ref o)] → va_P (dC, dI) vwCl ([] ++ fz) H → va_D A ([] ++ fz) → va_S A s.heap H locs → W p l e (headSpec ws_TE_holds ({ frames := 80, cells := 0, slots := 0, locals := 2300 })).room s m args below meth c H locs 0 0 Q (F0 m 4 ls []) := by
      intro k9
      induction k9 using Nat.strongRecOn with
      | ind k9 ih =>
        intro i ya y dy ny H locs ls hk9 hi0 hac hvy hdy hl hP hD hS
        refine lv_iload_n hx hb d_TE_holds_4 rfl (lv_at hl 0 rfl) ?_
        refine lv_aload_n hx hb d_TE_holds_5 rfl (lv_at hl 3 rfl) ?_
        obtain ⟨qz21, hz21⟩ := List.getElem?_of_mem (List.mem_append_right [] hoc)
        refine va_get (D := (dC, dI)) (ci := 11) (v := .ref al) (C := R_TE) (T := T_TE) (N := 3) hx hb htb in_TE hown hK hP qz21 hz21 rfl 0 (by decide) (htb _ m_974) (fun _ h9 => h9) rfl d_TE_holds_6 ?_
        have hPc : va_P (dC, dI) vwCl ([] ++ fz) _ := zz_tlP (pre := []) (tl := fz) hP
        have hKc := hK.sub (tys' := []) [] rfl
        refine vp_callSi (W.runV (As := []) (rest := [.int (nI i)]) ⟨hx, hb, hml, hown, htb⟩ (z_AL_size l dC dI al xs cO em fz hal) (cwV 0 htb (g_V (fun _ h => h) m_486 m_1031 m_484 m_485 m_8) rfl rfl rfl (by decide +kernel) ⟨Nat.le_of_ble_eq_true rfl, Nat.le_of_ble_eq_true rfl⟩) ⟨fun a U g mk q => by obtain ⟨q0, qP, qK⟩ := q; exact ⟨q0, qP, va_K.moved (u := U) (U := U.calling g mk a) (Vm.Alike.refl U.vm) qK⟩, (hal).recv hK hP (fun q hq => List.mem_append_right _ hq), fun U hU hW => ⟨rfl, by rw [hU]; exact hPc, va_K.moved hW.alike hKc⟩⟩ rfl rfl hl.1 rfl (lv_room (Nat.le_of_ble_eq_true rfl)) d_TE_holds_9 ⟨Nat.le_of_ble_eq_true rfl, Nat.le_of_ble_eq_true rfl⟩) (fun r22 hw23 => ?_)
        replace hw23 : r22 = nI xs.length := hw23
        clear hPc hKc
        obtain rfl := hw23
        refine lv_icmp_ge (tgt := 41) hx hb d_TE_holds_12 rfl (fun h1 => ?_) (fun h1 => ?_)
        · have h1 : xs.length ≤ i := (nI_leI (by omega) (by omega)).mp h1
          rw [List.take_of_length_le (by omega)] at hac
          obtain ⟨dy, rfl⟩ := hvy.succ
          refine lv_aload_n hx hb d_TE_holds_41 rfl (lv_at hl 1 rfl) ?_
          refine lv_ifnonnull (tgt := 59) hx hb d_TE_holds_42 rfl ?_
          refine lv_aload_n hx hb d_TE_holds_59 rfl (lv_at hl 3 rfl) ?_
          obtain ⟨qz24, hz24⟩ := List.getElem?_of_mem (List.mem_append_right [] hoc)
          refine va_get (D := (dC, dI)) (ci := 11) (v := .null) (C := R_TE) (T := T_TE) (N := 3) hx hb htb in_TE hown hK hP qz24 hz24 rfl 2 (by decide) (htb _ m_976) (fun _ h9 => h9) rfl d_TE_holds_60 ?_
          refine lv_ifnonnullN hx hb d_TE_holds_63 ?_
          refine lv_iconst (v := 1) hx hb d_TE_holds_66 (by decide) ?_
          have hP9 := zz_pickP (pre := []) (fz := fz) (wc := []) hP [] rfl
          have hD9 := zz_pickD (pre := []) (fz := fz) (wc := []) hD [] (by decide) rfl
          have hK9 := hK.sub (tys' := [(cB, .byte), (cO, .object "java/lang/Object")]) [0, 1] rfl
          rw [hQ]
          refine W.widen (k := 0) (n := 0) (Nat.le_of_ble_eq_true rfl) (Nat.le_of_ble_eq_true rfl) ?_
          exact W.zret (v := 1) hx hb hr (by decide) (fun t ht hW => ⟨⟨1, (), rfl, by rw [hld_0 hac hs0]; rfl, ⟨by rw [ht]; exact hP9, va_K.moved hW.alike hK9, hD9⟩⟩, hS.F ht⟩) hS.2.2 d_TE_holds_67
        · have h1 : i < xs.length := Nat.not_le.mp (fun h => h1 ((nI_leI (by omega) (by omega)).mpr h))
          have hca := hxs i h1
          obtain ⟨fs0, hvin0⟩ := hca.vin
          obtain ⟨dy1, hdy1⟩ := hvy.succ
          have hvy1 : VT cB cO em aK (dy1 + 1) fz ya ny y.2 := hdy1 ▸ hvy
          refine lv_aload_n hx hb d_TE_holds_15 rfl (lv_at hl 1 rfl) ?_
          refine lv_ifnull hx hb d_TE_holds_16 ?_
          refine lv_aload_n hx hb d_TE_holds_19 rfl (lv_at hl 3 rfl) ?_
          obtain ⟨qz24, hz24⟩ := List.getElem?_of_mem (List.mem_append_right [] hoc)
          refine va_get (D := (dC, dI)) (ci := 11) (v := .ref al) (C := R_TE) (T := T_TE) (N := 3) hx hb htb in_TE hown hK hP qz24 hz24 rfl 0 (by decide) (htb _ m_974) (fun _ h9 => h9) rfl d_TE_holds_20 ?_
          refine lv_iload_n hx hb d_TE_holds_23 rfl (lv_at hl 0 rfl) ?_
          have hPc : va_P (dC, dI) vwCl ([] ++ fz) _ := zz_tlP (pre := []) (tl := fz) hP
          have hKc := hK.sub (tys' := [(cO, .object "java/lang/Object")]) [1] rfl
          refine va_csq (W.runV (As := [.int (nI i)]) (rest := []) ⟨hx, hb, hml, hown, htb⟩ (z_AL_get l dC dI al xs cO em i fz hal h1) (cwV 1 htb (g_V (fun _ h => h) m_490 m_1032 m_488 m_489 m_8) rfl rfl rfl (by decide +kernel) ⟨Nat.le_of_ble_eq_true rfl, Nat.le_of_ble_eq_true rfl⟩) ⟨fun a U g mk q => by obtain ⟨q0, qP, qK⟩ := q; exact ⟨q0, qP, va_K.moved (u := U) (U := U.calling g mk a) (Vm.Alike.refl U.vm) qK⟩, (hal).recv hK hP (fun q hq => List.mem_append_right _ hq), fun U hU hW => ⟨rfl, by rw [hU]; exact hPc, va_K.moved hW.alike hKc⟩⟩ rfl rfl hl.1 rfl (lv_room (Nat.le_of_ble_eq_true rfl)) d_TE_holds_24 ⟨Nat.le_of_ble_eq_true rfl, Nat.le_of_ble_eq_true rfl⟩) (fun r25 hw26 => ?_)
          replace hw26 : r25 = some (xs.getD i 0) := hw26
          clear hPc hKc
          obtain rfl := hw26
          refine W.eq (g2 := F0 m 27 ls [.ref (xs.getD i 0)]) rfl ?_
          refine va_castY (C := "PatchStore$Selector") hx hb hown (htb _ m_1033) (nw_17 hE) (zz_recv hK hP (ci := 10) rfl (List.mem_append_right _ hvin0)) d_TE_holds_27 ?_
          refine lv_aload_n hx hb d_TE_holds_30 rfl (lv_at hl 1 rfl) ?_
          have hPc := zz_pickP (pre := []) (fz := fz) (wc := []) hP [] rfl
          have hDc := zz_pickD (pre := []) (fz := fz) (wc := []) hD [] (by decide) rfl
          have hFc := zz_free (pre := []) (fz := fz) (wc := []) hD hS hA [] rfl
          have hKc := hK.sub (tys' := [(cB, .byte), (cO, .object "java/lang/Object")]) [0, 1] rfl
          refine va_callq (va_runV (As := [.ref ya]) (rest := []) ⟨hx, hb, hml, hown, htb⟩ (k_SE_oneIn l dC dI _ (xs.getD i 0) (t0.1.getD i acx0) fz ya dy1 ny y.2 cB cO em aK aV fz hca hvy1 (fun _ h => h)) (cwV 1 htb (g_V (fun _ h => h) m_1037 m_1034 m_1035 m_1036 m_26) rfl rfl rfl (by decide +kernel) ⟨Nat.le_of_ble_eq_true rfl, Nat.le_of_ble_eq_true rfl⟩) ⟨fun a U g mk q => by obtain ⟨q0, q1, qP, qK, qD, z0⟩ := q; exact ⟨q0, q1, qP, va_K.moved (u := U) (U := U.calling g mk a) (Vm.Alike.refl U.vm) qK, qD, EX.same (U := U) (U' := U.calling g mk a) rfl z0⟩, (zz_recv hK hP (ci := 10) rfl (List.mem_append_right _ hvin0)), fun U hU hW => ⟨rfl, by rw [hU], by rw [hU]; exact hPc, va_K.moved hW.alike hKc, hDc.weaken (fun _ _ _ _ => trivial), by rw [hU]; exact EX.warm hW ((hE.kept (fun a h1 h2 => hS.2.1 a h1 h2)).narrow hFc)⟩⟩ rfl rfl hl.1 rfl (lv_room (Nat.le_of_ble_eq_true rfl)) d_TE_holds_31 ⟨Nat.le_of_ble_eq_true rfl, Nat.le_of_ble_eq_true rfl⟩) hS (fun q _ h => hFc q h) hFc (fun r28 u27 t H1 locs ht hvm hw29 hB hz1 hk1 hS => ?_)
          obtain ⟨hP1, hK1, hD1⟩ := hB
          rw [ht] at hP1
          have hK1 := va_K.moved hvm.symm hK1
          replace hw29 : (r28 = none ∧ acR (t0.1.getD i acx0) y.2 = none) ∨ ∃ t8 y8 n8, r28 = some y8 ∧ acR (t0.1.getD i acx0) y.2 = some t8 ∧ t8 < (ksR y.2).length ∧ VT cB cO em aK dy1 fz y8 n8 ((ksR y.2).getD t8 []) := hw29
          obtain ⟨hP, hD⟩ := zz_join (pre := []) (fz := fz) (wc := []) (wr := []) (w1 := ([] ++ fz)) hP hD [] [] rfl rfl (by decide) (by decide) hk1 hFc hP1 hD1
          have hK := (hK.sub (tys' := []) [] rfl).app hK1
          generalize H1 = H at hP hS ⊢
          replace hP : va_P (dC, dI) vwCl ([] ++ fz) H := hP
          replace hD : va_D A ([] ++ fz) := hD
          replace hK : va_K (dC, dI) vwCl [(cB, .byte), (cO, .object "java/lang/Object")] s := hK
          clear hPc hDc hFc hKc hP1 hD1 hK1 hk1 hz1 ht hvm
          obtain ⟨rfl, hon⟩ | ⟨t8, y8, n8, rfl, hon, hlt8, hvk⟩ := hw29
          · refine W.eq (g2 := F0 m 34 ls [.null]) rfl ?_
            have hno := accs_bad (by omega) hac hon
            refine lv_astore_nN hx hb d_TE_holds_34 rfl hl (by decide) rfl (fun ls hl => ?_)
            replace hl : lv_has ls 4 [(2, .null), (3, .int (nI i)), (1, .ref a), (0, .ref o)] := hl
            refine lv_iinc (k := 1) (v := ((nI i) + Int32.ofInt 1)) hx hb d_TE_holds_35 hl rfl rfl (by decide) rfl (fun ls hl => ?_)
            replace hl : lv_has ls 4 [(3, .int ((nI i) + Int32.ofInt 1)), (2, .null), (1, .ref a), (0, .ref o)] := hl
            refine lv_goto (tgt := 4) hx hb d_TE_holds_38 rfl ?_
            refine lv_iload_n hx hb d_TE_holds_4 rfl (lv_at hl 0 rfl) ?_
            refine lv_aload_n hx hb d_TE_holds_5 rfl (lv_at hl 3 rfl) ?_
            obtain ⟨qz31, hz31⟩ := List.getElem?_of_mem (List.mem_append_right [] hoc)
            refine va_get (D := (dC, dI)) (ci := 11) (v := .ref al) (C := R_TE) (T := T_TE) (N := 3) hx hb htb in_TE hown hK hP qz31 hz31 rfl 0 (by decide) (htb _ m_974) (fun _ h9 => h9) rfl d_TE_holds_6 ?_
            have hPc : va_P (dC, dI) vwCl ([] ++ fz) _ := zz_tlP (pre := []) (tl := fz) hP
            have hKc := hK.sub (tys' := []) [] rfl
            refine vp_callSi (W.runV (As := []) (rest := [.int ((nI i) + Int32.ofInt 1)]) ⟨hx, hb, hml, hown, htb⟩ (z_AL_size l dC dI al xs cO em fz hal) (cwV 0 htb (g_V (fun _ h => h) m_486 m_1031 m_484 m_485 m_8) rfl rfl rfl (by decide +kernel) ⟨Nat.le_of_ble_eq_true rfl, Nat.le_of_ble_eq_true rfl⟩) ⟨fun a U g mk q => by obtain ⟨q0, qP, qK⟩ := q; exact ⟨q0, qP, va_K.moved (u := U) (U := U.calling g mk a) (Vm.Alike.refl U.vm) qK⟩, (hal).recv hK hP (fun q hq => List.mem_append_right _ hq), fun U hU hW => ⟨rfl, by rw [hU]; exact hPc, va_K.moved hW.alike hKc⟩⟩ rfl rfl hl.1 rfl (lv_room (Nat.le_of_ble_eq_true rfl)) d_TE_holds_9 ⟨Nat.le_of_ble_eq_true rfl, Nat.le_of_ble_eq_true rfl⟩) (fun r32 hw33 => ?_)
            replace hw33 : r32 = nI xs.length := hw33
            clear hPc hKc
            obtain rfl := hw33
            refine lv_icmp_ge (tgt := 41) hx hb d_TE_holds_12 rfl (fun h7 => ?_) (fun h7 => ?_)
            · exact hjoinN  _ _ ls (hno) (lv_sub hl [1, 2, 3] rfl) (zz_pickP (pre := []) (fz := fz) (wc := []) hP [] rfl) (zz_pickD (pre := []) (fz := fz) (wc := []) hD [] (by decide) rfl) hS
            · refine lv_aload_nN hx hb d_TE_holds_15 rfl (lv_at hl 1 rfl) ?_
              refine lv_ifnullN (tgt := 41) hx hb d_TE_holds_16 rfl ?_
              exact hjoinN  _ _ ls (hno) (lv_sub hl [1, 2, 3] rfl) (zz_pickP (pre := []) (fz := fz) (wc := []) hP [] rfl) (zz_pickD (pre := []) (fz := fz) (wc := []) hD [] (by decide) rfl) hS
          · refine W.eq (g2 := F0 m 34 ls [.ref y8]) rfl ?_
            refine lv_astore_n hx hb d_TE_holds_34 rfl hl (by decide) rfl (fun ls hl => ?_)
            replace hl : lv_has ls 4 [(2, .ref y8), (3, .int (nI i)), (1, .ref a), (0, .ref o)] := hl
            refine lv_iinc (k := 1) (v := ((nI i) + Int32.ofInt 1)) hx hb d_TE_holds_35 hl rfl rfl (by decide) rfl (fun ls hl => ?_)
            replace hl : lv_has ls 4 [(3, .int ((nI i) + Int32.ofInt 1)), (2, .ref y8), (1, .ref a), (0, .ref o)] := hl
            rw [show nI i + Int32.ofInt 1 = nI (i + 1) from nI_1 _] at hl
            replace hl : lv_has ls 4 [(3, .int (nI (i + 1))), (2, .ref y8), (1, .ref a), (0, .ref o)] := hl
            refine lv_goto (tgt := 4) hx hb d_TE_holds_38 rfl ?_
            exact ih (xs.length - (i + 1)) (by omega) (i + 1) y8 (kidL y t8) dy1 n8 H locs ls rfl (by omega) (accs_go (by omega) hac hon) (hvk) (by omega) (lv_sub hl [0, 1, 2, 3] rfl) (zz_pickP (pre := []) (fz := fz) (wc := []) hP [] rfl) (zz_pickD (pre := []) (fz := fz) (wc := []) hD [] (by decide) rfl) hS
    exact hloop _ 0 a x (d + 1) nn _ _ ls rfl (Nat.zero_le _) (rfl) (hv) (by omega) (lv_sub hl [0, 1, 3, 2] rfl) (zz_pickP (pre := []) (fz := fz) (wc := []) hP [] rfl) (zz_pickD (pre := []) (fz := fz) (wc := []) hD [] (by decide) rfl) hS
  · obtain ⟨hs0, hs6, hk4, lv, hoc, hvl⟩ := hcase
    refine lv_aload_n hx hb d_TE_holds_0 rfl (lv_at hl 1 rfl) ?_
    refine lv_astore_n hx hb d_TE_holds_1 rfl hl (by decide) rfl (fun ls hl => ?_)
    replace hl : lv_has ls 4 [(2, .ref a), (0, .ref o), (1, .ref a)] := hl
    refine lv_iconst (v := 0) hx hb d_TE_holds_2 (by decide) ?_
    refine lv_istore_n hx hb d_TE_holds_3 rfl hl (by decide) rfl (fun ls hl => ?_)
    replace hl : lv_has ls 4 [(3, .int 0), (2, .ref a), (0, .ref o), (1, .ref a)] := hl
    replace hl : lv_has ls 4 [(3, .int (nI 0)), (2, .ref a), (0, .ref o), (1, .ref a)] := hl
    have hjoinN : ∀  (H : Heap) (locs : List Loc) (ls : Array Slot), (accs t0.1 x = none) → lv_has ls 4 [(2, .null), (1, .ref a), (0, .ref o)] → va_P (dC, dI) vwCl ([] ++ fz) H → va_D A ([] ++ fz) → va_S A s.heap H locs → W p l e (headSpec ws_TE_holds ({ frames := 80, cells := 0, slots := 0, locals := 2300 })).room s m args below meth c H locs 0 0 Q (F0 m 41 ls []) := by
      intro  H locs ls hno hl hP hD hS
      refine lv_aload_nN hx hb d_TE_holds_41 rfl (lv_at hl 0 rfl) ?_
      refine lv_ifnonnullN hx hb d_TE_holds_42 ?_
      refine lv_aload_n hx hb d_TE_holds_45 rfl (lv_at hl 2 rfl) ?_
      obtain ⟨qz21, hz21⟩ := List.getElem?_of_mem (List.mem_append_right [] hoc)
      refine va_get (D := (dC, dI)) (ci := 11) (v := .int (nI t0.2.1)) (C := R_TE) (T := T_TE) (N := 3) hx hb htb in_TE hown hK hP qz21 hz21 rfl 1 (by decide) (htb _ m_975) (fun _ h9 => h9) rfl d_TE_holds_46 ?_
      refine lv_iconst (v := 2) hx hb d_TE_holds_49 (by decide) ?_
      refine lv_icmp_ne (tgt := 57) hx hb d_TE_holds_50 rfl (fun h8 => ?_) (fun h8 => ?_)
      · have h8 : ¬ t0.2.1 = 2 := fun h => h8 (by rw [h]; rfl)
        refine lv_iconst (v := 0) hx hb d_TE_holds_57 (by decide) ?_
        have hP9 := zz_pickP (pre := []) (fz := fz) (wc := []) hP [] rfl
        have hD9 := zz_pickD (pre := []) (fz := fz) (wc := []) hD [] (by decide) rfl
        have hK9 := hK.sub (tys' := [(cB, .byte), (cO, .object "java/lang/Object")]) [0, 1] rfl
        rw [hQ]
        refine W.widen (k := 0) (n := 0) (Nat.le_of_ble_eq_true rfl) (Nat.le_of_ble_eq_true rfl) ?_
        exact W.zret (v := 0) hx hb hr (by decide) (fun t ht hW => ⟨⟨0, (), rfl, by rw [hld_no hno, decide_eq_false h8]; rfl, ⟨by rw [ht]; exact hP9, va_K.moved hW.alike hK9, hD9⟩⟩, hS.F ht⟩) hS.2.2 d_TE_holds_58
      · have h8 : t0.2.1 = 2 := (nI_eq (by omega) (by decide)).mp h8
        refine lv_iconst (v := 1) hx hb d_TE_holds_53 (by decide) ?_
        refine lv_goto (tgt := 58) hx hb d_TE_holds_54 rfl ?_
        have hP9 := zz_pickP (pre := []) (fz := fz) (wc := []) hP [] rfl
        have hD9 := zz_pickD (pre := []) (fz := fz) (wc := []) hD [] (by decide) rfl
        have hK9 := hK.sub (tys' := [(cB, .byte), (cO, .object "java/lang/Object")]) [0, 1] rfl
        rw [hQ]
        refine W.widen (k := 0) (n := 0) (Nat.le_of_ble_eq_true rfl) (Nat.le_of_ble_eq_true rfl) ?_
        exact W.zret (v := 1) hx hb hr (by decide) (fun t ht hW => ⟨⟨1, (), rfl, by rw [hld_no hno, decide_eq_true h8]; rfl, ⟨by rw [ht]; exact hP9, va_K.moved hW.alike hK9, hD9⟩⟩, hS.F ht⟩) hS.2.2 d_TE_holds_58
    have hloop : ∀ (k9 : Nat) (i : Nat) (ya : Nat) (y : Plc) (dy : Nat) (ny : List Nat) (H : Heap) (locs : List Loc) (ls : Array Slot), xs.length - i = k9 → (i ≤ xs.length) → (accs (t0.1.take i) x = some y) → (VT cB cO em aK dy fz ya ny y.2) → (dy ≤ 21) → lv_has ls 4 [(3, .int (nI i)), (2, .ref ya), (1, .ref a), (0, .ref o)] → va_P (dC, dI) vwCl ([] ++ fz) H → va_D A ([] ++ fz) → va_S A s.heap H locs → W p l e (headSpec ws_TE_holds ({ frames := 80, cells := 0, slots := 0, locals := 2300 })).room s m args below meth c H locs 0 0 Q (F0 m 4 ls []) := by
      intro k9
      induction k9 using Nat.strongRecOn with
      | ind k9 ih =>
        intro i ya y dy ny H locs ls hk9 hi0 hac hvy hdy hl hP hD hS
        refine lv_iload_n hx hb d_TE_holds_4 rfl (lv_at hl 0 rfl) ?_
        refine lv_aload_n hx hb d_TE_holds_5 rfl (lv_at hl 3 rfl) ?_
        obtain ⟨qz21, hz21⟩ := List.getElem?_of_mem (List.mem_append_right [] hoc)
        refine va_get (D := (dC, dI)) (ci := 11) (v := .ref al) (C := R_TE) (T := T_TE) (N := 3) hx hb htb in_TE hown hK hP qz21 hz21 rfl 0 (by decide) (htb _ m_974) (fun _ h9 => h9) rfl d_TE_holds_6 ?_
        have hPc : va_P (dC, dI) vwCl ([] ++ fz) _ := zz_tlP (pre := []) (tl := fz) hP
        have hKc := hK.sub (tys' := []) [] rfl
        refine vp_callSi (W.runV (As := []) (rest := [.int (nI i)]) ⟨hx, hb, hml, hown, htb⟩ (z_AL_size l dC dI al xs cO em fz hal) (cwV 0 htb (g_V (fun _ h => h) m_486 m_1031 m_484 m_485 m_8) rfl rfl rfl (by decide +kernel) ⟨Nat.le_of_ble_eq_true rfl, Nat.le_of_ble_eq_true rfl⟩) ⟨fun a U g mk q => by obtain ⟨q0, qP, qK⟩ := q; exact ⟨q0, qP, va_K.moved (u := U) (U := U.calling g mk a) (Vm.Alike.refl U.vm) qK⟩, (hal).recv hK hP (fun q hq => List.mem_append_right _ hq), fun U hU hW => ⟨rfl, by rw [hU]; exact hPc, va_K.moved hW.alike hKc⟩⟩ rfl rfl hl.1 rfl (lv_room (Nat.le_of_ble_eq_true rfl)) d_TE_holds_9 ⟨Nat.le_of_ble_eq_true rfl, Nat.le_of_ble_eq_true rfl⟩) (fun r22 hw23 => ?_)
        replace hw23 : r22 = nI xs.length := hw23
        clear hPc hKc
        obtain rfl := hw23
        refine lv_icmp_ge (tgt := 41) hx hb d_TE_holds_12 rfl (fun h1 => ?_) (fun h1 => ?_)
        · have h1 : xs.length ≤ i := (nI_leI (by omega) (by omega)).mp h1
          rw [List.take_of_length_le (by omega)] at hac
          obtain ⟨dy, rfl⟩ := hvy.succ
          refine lv_aload_n hx hb d_TE_holds_41 rfl (lv_at hl 1 rfl) ?_
          refine lv_ifnonnull (tgt := 59) hx hb d_TE_holds_42 rfl ?_
          refine lv_aload_n hx hb d_TE_holds_59 rfl (lv_at hl 3 rfl) ?_
          obtain ⟨qz24, hz24⟩ := List.getElem?_of_mem (List.mem_append_right [] hoc)
          refine va_get (D := (dC, dI)) (ci := 11) (v := .ref lv) (C := R_TE) (T := T_TE) (N := 3) hx hb htb in_TE hown hK hP qz24 hz24 rfl 2 (by decide) (htb _ m_976) (fun _ h9 => h9) rfl d_TE_holds_60 ?_
          refine lv_ifnonnull (tgt := 68) hx hb d_TE_holds_63 rfl ?_
          have hw1 := hvy.wr
          have hh1 := hvy.heads
          have hh2 := hvl.heads
          have hsm := smR_lit (d := 29) hw1 hk4 hh2.1 hh2.2 hh1.1 hh1.2
          refine lv_aload_n hx hb d_TE_holds_68 rfl (lv_at hl 1 rfl) ?_
          refine lv_aload_n hx hb d_TE_holds_69 rfl (lv_at hl 3 rfl) ?_
          obtain ⟨qz25, hz25⟩ := List.getElem?_of_mem (List.mem_append_right [] hoc)
          refine va_get (D := (dC, dI)) (ci := 11) (v := .ref lv) (C := R_TE) (T := T_TE) (N := 3) hx hb htb in_TE hown hK hP qz25 hz25 rfl 2 (by decide) (htb _ m_976) (fun _ h9 => h9) rfl d_TE_holds_70 ?_
          have hPc := zz_pickP (pre := []) (fz := fz) (wc := []) hP [] rfl
          have hDc := zz_pickD (pre := []) (fz := fz) (wc := []) hD [] (by decide) rfl
          have hFc := zz_free (pre := []) (fz := fz) (wc := []) hD hS hA [] rfl
          have hKc := hK.sub (tys' := [(cB, .byte), (cO, .object "java/lang/Object")]) [0, 1] rfl
          refine va_calli (va_runSN (As := [.ref ya, .ref lv]) (rest := []) ⟨hx, hb, hml, hown, htb⟩ (all_VA_same 30 l dC dI _ ya lv ny ([] : List Nat) y.2 ([(t0.2.2.1, 0, t0.2.2.2.1, t0.2.2.2.2, [])]) cB cO em aK aV fz (hvy.up (by omega)) (hvl.up (by decide)) (by decide)) ⟨va_cnB 2 htb (g_all (fun _ h => h) m_836) rfl rfl rfl (nw_10 hE) (htb _ m_18) (by decide +kernel) ⟨(by show ((10 + 2 * 30) + 1) ≤ 80; omega), (by show (24 + (200 + 60 * 30)) ≤ 2300; omega)⟩, (htb _ m_835), trivial⟩ ⟨fun a U g mk q => by obtain ⟨q0, q1, qP, qK, qD, z0⟩ := q; exact ⟨q0, q1, qP, va_K.moved (u := U) (U := U.calling g mk a) (Vm.Alike.refl U.vm) qK, qD, EX.same (U := U) (U' := U.calling g mk a) rfl z0⟩, fun U hU hW => ⟨rfl, by rw [hU], by rw [hU]; exact hPc, va_K.moved hW.alike hKc, hDc.weaken (fun _ _ _ _ => trivial), by rw [hU]; exact EX.warm hW ((hE.kept (fun a h1 h2 => hS.2.1 a h1 h2)).narrow hFc)⟩⟩ rfl rfl hl.1 rfl (lv_room (Nat.le_of_ble_eq_true rfl)) d_TE_holds_73 ⟨Nat.le_of_ble_eq_true rfl, Nat.le_of_ble_eq_true rfl⟩) hS (fun q _ h => hFc q h) hFc (fun r27 u26 t H1 locs ht hvm hw28 hB hz1 hk1 hS => ?_)
          obtain ⟨hP1, hK1, hD1⟩ := hB
          rw [ht] at hP1
          have hK1 := va_K.moved hvm.symm hK1
          replace hw28 : r27 = bI (smR 30 y.2 ([(t0.2.2.1, 0, t0.2.2.2.1, t0.2.2.2.2, [])])) := hw28
          obtain ⟨hP, hD⟩ := zz_join (pre := []) (fz := fz) (wc := []) (wr := []) (w1 := ([] ++ fz)) hP hD [] [] rfl rfl (by decide) (by decide) hk1 hFc hP1 hD1
          have hK := (hK.sub (tys' := []) [] rfl).app hK1
          generalize H1 = H at hP hS ⊢
          replace hP : va_P (dC, dI) vwCl ([] ++ fz) H := hP
          replace hD : va_D A ([] ++ fz) := hD
          replace hK : va_K (dC, dI) vwCl [(cB, .byte), (cO, .object "java/lang/Object")] s := hK
          clear hPc hDc hFc hKc hP1 hD1 hK1 hk1 hz1 ht hvm
          have hsr : r27 = bI (smL y.2 t0.2.2) := by rw [hw28]; exact congrArg bI hsm
          subst hsr
          have hhl := hld_s hac hs0
          refine lv_istore_n hx hb d_TE_holds_76 rfl hl (by decide) rfl (fun ls hl => ?_)
          replace hl : lv_has ls 4 [(3, .int (bI (smL y.2 t0.2.2))), (2, .ref ya), (1, .ref a), (0, .ref o)] := hl
          refine lv_aload_n hx hb d_TE_holds_77 rfl (lv_at hl 3 rfl) ?_
          obtain ⟨qz30, hz30⟩ := List.getElem?_of_mem (List.mem_append_right [] hoc)
          refine va_get (D := (dC, dI)) (ci := 11) (v := .int (nI t0.2.1)) (C := R_TE) (T := T_TE) (N := 3) hx hb htb in_TE hown hK hP qz30 hz30 rfl 1 (by decide) (htb _ m_975) (fun _ h9 => h9) rfl d_TE_holds_78 ?_
          rcases (show t0.2.1 = 1 ∨ t0.2.1 = 2 ∨ t0.2.1 = 3 ∨ t0.2.1 = 4 ∨ t0.2.1 = 5 ∨ t0.2.1 = 6 by omega) with hsk | hsk | hsk | hsk | hsk | hsk
          · rw [hsk] at hhl
            refine W.eq (g2 := F0 m 81 ls [.int (nI 1)]) (by rw [hsk]) ?_
            refine lv_tableIn (x := nI 1) (tgt := 116) hx hb d_TE_holds_81 (by decide) (by decide) rfl rfl ?_
            refine lv_iload_n hx hb d_TE_holds_116 rfl (lv_at hl 0 rfl) ?_
            have hP9 := zz_pickP (pre := []) (fz := fz) (wc := []) hP [] rfl
            have hD9 := zz_pickD (pre := []) (fz := fz) (wc := []) hD [] (by decide) rfl
            have hK9 := hK.sub (tys' := [(cB, .byte), (cO, .object "java/lang/Object")]) [0, 1] rfl
            rw [hQ]
            refine W.widen (k := 0) (n := 0) (Nat.le_of_ble_eq_true rfl) (Nat.le_of_ble_eq_true rfl) ?_
            exact W.zret (v := (bI (smL y.2 t0.2.2))) hx hb hr (bI_nar) (fun t ht hW => ⟨⟨(bI (smL y.2 t0.2.2)), (), rfl, by rw [hhl, cm1], ⟨by rw [ht]; exact hP9, va_K.moved hW.alike hK9, hD9⟩⟩, hS.F ht⟩) hS.2.2 d_TE_holds_117
          · rw [hsk] at hhl
            refine W.eq (g2 := F0 m 81 ls [.int (nI 2)]) (by rw [hsk]) ?_
            refine lv_tableIn (x := nI 2) (tgt := 118) hx hb d_TE_holds_81 (by decide) (by decide) rfl rfl ?_
            refine lv_iload_n hx hb d_TE_holds_118 rfl (lv_at hl 0 rfl) ?_
            refine lv_if_ne (tgt := 126) hx hb d_TE_holds_119 rfl (fun h5 => ?_) (fun h5 => ?_)
            · have h5 := bI_ne.mp h5
              refine lv_iconst (v := 0) hx hb d_TE_holds_126 (by decide) ?_
              have hP9 := zz_pickP (pre := []) (fz := fz) (wc := []) hP [] rfl
              have hD9 := zz_pickD (pre := []) (fz := fz) (wc := []) hD [] (by decide) rfl
              have hK9 := hK.sub (tys' := [(cB, .byte), (cO, .object "java/lang/Object")]) [0, 1] rfl
              rw [hQ]
              refine W.widen (k := 0) (n := 0) (Nat.le_of_ble_eq_true rfl) (Nat.le_of_ble_eq_true rfl) ?_
              exact W.zret (v := 0) hx hb hr (by decide) (fun t ht hW => ⟨⟨0, (), rfl, by rw [hhl, cm2, h5]; rfl, ⟨by rw [ht]; exact hP9, va_K.moved hW.alike hK9, hD9⟩⟩, hS.F ht⟩) hS.2.2 d_TE_holds_127
            · have h5 := bI_eq.mp h5
              refine lv_iconst (v := 1) hx hb d_TE_holds_122 (by decide) ?_
              refine lv_goto (tgt := 127) hx hb d_TE_holds_123 rfl ?_
              have hP9 := zz_pickP (pre := []) (fz := fz) (wc := []) hP [] rfl
              have hD9 := zz_pickD (pre := []) (fz := fz) (wc := []) hD [] (by decide) rfl
              have hK9 := hK.sub (tys' := [(cB, .byte), (cO, .object "java/lang/Object")]) [0, 1] rfl
              rw [hQ]
              refine W.widen (k := 0) (n := 0) (Nat.le_of_ble_eq_true rfl) (Nat.le_of_ble_eq_true rfl) ?_
              exact W.zret (v := 1) hx hb hr (by decide) (fun t ht hW => ⟨⟨1, (), rfl, by rw [hhl, cm2, h5]; rfl, ⟨by rw [ht]; exact hP9, va_K.moved hW.alike hK9, hD9⟩⟩, hS.F ht⟩) hS.2.2 d_TE_holds_127
          · rw [hsk] at hhl
            refine W.eq (g2 := F0 m 81 ls [.int (nI 3)]) (by rw [hsk]) ?_
            refine lv_tableIn (x := nI 3) (tgt := 128) hx hb d_TE_holds_81 (by decide) (by decide) rfl rfl ?_
            refine lv_aload_n hx hb d_TE_holds_128 rfl (lv_at hl 1 rfl) ?_
            refine lv_aload_n hx hb d_TE_holds_129 rfl (lv_at hl 3 rfl) ?_
            obtain ⟨qz31, hz31⟩ := List.getElem?_of_mem (List.mem_append_right [] hoc)
            refine va_get (D := (dC, dI)) (ci := 11) (v := .ref lv) (C := R_TE) (T := T_TE) (N := 3) hx hb htb in_TE hown hK hP qz31 hz31 rfl 2 (by decide) (htb _ m_976) (fun _ h9 => h9) rfl d_TE_holds_130 ?_
            have hPc := zz_pickP (pre := []) (fz := fz) (wc := []) hP [] rfl
            have hDc := zz_pickD (pre := []) (fz := fz) (wc := []) hD [] (by decide) rfl
            have hFc := zz_free (pre := []) (fz := fz) (wc := []) hD hS hA [] rfl
            have hKc := hK.sub (tys' := [(cB, .byte), (cO, .object "java/lang/Object")]) [0, 1] rfl
            refine va_calli (va_runS (As := [.ref ya, .ref lv]) (rest := []) ⟨hx, hb, hml, hown, htb⟩ (k_VA_less l dC dI _ ya lv dy 0 ny ([] : List Nat) y.2 ([(t0.2.2.1, 0, t0.2.2.2.1, t0.2.2.2.2, [])]) cB cO em aK aV fz hvy hvl) (va_cwS 2 htb (g_S (fun _ h => h) m_1043 m_1041 m_1042 m_18) rfl rfl rfl (by decide +kernel) ⟨Nat.le_of_ble_eq_true rfl, Nat.le_of_ble_eq_true rfl⟩) ⟨fun a U g mk q => by obtain ⟨q0, q1, qP, qK, qD, z0⟩ := q; exact ⟨q0, q1, qP, va_K.moved (u := U) (U := U.calling g mk a) (Vm.Alike.refl U.vm) qK, qD, EX.same (U := U) (U' := U.calling g mk a) rfl z0⟩, fun U hU hW => ⟨rfl, by rw [hU], by rw [hU]; exact hPc, va_K.moved hW.alike hKc, hDc.weaken (fun _ _ _ _ => trivial), by rw [hU]; exact EX.warm hW ((hE.kept (fun a h1 h2 => hS.2.1 a h1 h2)).narrow hFc)⟩⟩ rfl rfl hl.1 rfl (lv_room (Nat.le_of_ble_eq_true rfl)) d_TE_holds_133 ⟨Nat.le_of_ble_eq_true rfl, Nat.le_of_ble_eq_true rfl⟩) hS (fun q _ h => hFc q h) hFc (fun r33 u32 t H1 locs ht hvm hw34 hB hz1 hk1 hS => ?_)
            obtain ⟨hP1, hK1, hD1⟩ := hB
            rw [ht] at hP1
            have hK1 := va_K.moved hvm.symm hK1
            replace hw34 : r33 = bI (lsV y.2 ([(t0.2.2.1, 0, t0.2.2.2.1, t0.2.2.2.2, [])])) := hw34
            obtain ⟨hP, hD⟩ := zz_join (pre := []) (fz := fz) (wc := []) (wr := []) (w1 := ([] ++ fz)) hP hD [] [] rfl rfl (by decide) (by decide) hk1 hFc hP1 hD1
            have hK := (hK.sub (tys' := []) [] rfl).app hK1
            generalize H1 = H at hP hS ⊢
            replace hP : va_P (dC, dI) vwCl ([] ++ fz) H := hP
            replace hD : va_D A ([] ++ fz) := hD
            replace hK : va_K (dC, dI) vwCl [(cB, .byte), (cO, .object "java/lang/Object")] s := hK
            clear hPc hDc hFc hKc hP1 hD1 hK1 hk1 hz1 ht hvm
            have hlr : r33 = bI (lsL y.2 t0.2.2) := by rw [hw34]; exact congrArg bI (lsV_r hk4)
            subst hlr
            have hP9 := zz_pickP (pre := []) (fz := fz) (wc := []) hP [] rfl
            have hD9 := zz_pickD (pre := []) (fz := fz) (wc := []) hD [] (by decide) rfl
            have hK9 := hK.sub (tys' := [(cB, .byte), (cO, .object "java/lang/Object")]) [0, 1] rfl
            rw [hQ]
            refine W.widen (k := 0) (n := 0) (Nat.le_of_ble_eq_true rfl) (Nat.le_of_ble_eq_true rfl) ?_
            exact W.zret (v := (bI (lsL y.2 t0.2.2))) hx hb hr (bI_nar) (fun t ht hW => ⟨⟨(bI (lsL y.2 t0.2.2)), (), rfl, by rw [hhl, cm3], ⟨by rw [ht]; exact hP9, va_K.moved hW.alike hK9, hD9⟩⟩, hS.F ht⟩) hS.2.2 d_TE_holds_136
          · rw [hsk] at hhl
            refine W.eq (g2 := F0 m 81 ls [.int (nI 4)]) (by rw [hsk]) ?_
            refine lv_tableIn (x := nI 4) (tgt := 137) hx hb d_TE_holds_81 (by decide) (by decide) rfl rfl ?_
            refine lv_iload_n hx hb d_TE_holds_137 rfl (lv_at hl 0 rfl) ?_
            refine lv_if_ne (tgt := 152) hx hb d_TE_holds_138 rfl (fun h5 => ?_) (fun h5 => ?_)
            · have h5 := bI_ne.mp h5
              refine lv_iconst (v := 1) hx hb d_TE_holds_152 (by decide) ?_
              refine lv_goto (tgt := 157) hx hb d_TE_holds_153 rfl ?_
              have hP9 := zz_pickP (pre := []) (fz := fz) (wc := []) hP [] rfl
              have hD9 := zz_pickD (pre := []) (fz := fz) (wc := []) hD [] (by decide) rfl
              have hK9 := hK.sub (tys' := [(cB, .byte), (cO, .object "java/lang/Object")]) [0, 1] rfl
              rw [hQ]
              refine W.widen (k := 0) (n := 0) (Nat.le_of_ble_eq_true rfl) (Nat.le_of_ble_eq_true rfl) ?_
              exact W.zret (v := 1) hx hb hr (by decide) (fun t ht hW => ⟨⟨1, (), rfl, by rw [hhl, cm4, h5]; rfl, ⟨by rw [ht]; exact hP9, va_K.moved hW.alike hK9, hD9⟩⟩, hS.F ht⟩) hS.2.2 d_TE_holds_157
            · have h5 := bI_eq.mp h5
              refine lv_aload_n hx hb d_TE_holds_141 rfl (lv_at hl 1 rfl) ?_
              refine lv_aload_n hx hb d_TE_holds_142 rfl (lv_at hl 3 rfl) ?_
              obtain ⟨qz31, hz31⟩ := List.getElem?_of_mem (List.mem_append_right [] hoc)
              refine va_get (D := (dC, dI)) (ci := 11) (v := .ref lv) (C := R_TE) (T := T_TE) (N := 3) hx hb htb in_TE hown hK hP qz31 hz31 rfl 2 (by decide) (htb _ m_976) (fun _ h9 => h9) rfl d_TE_holds_143 ?_
              have hPc := zz_pickP (pre := []) (fz := fz) (wc := []) hP [] rfl
              have hDc := zz_pickD (pre := []) (fz := fz) (wc := []) hD [] (by decide) rfl
              have hFc := zz_free (pre := []) (fz := fz) (wc := []) hD hS hA [] rfl
              have hKc := hK.sub (tys' := [(cB, .byte), (cO, .object "java/lang/Object")]) [0, 1] rfl
              refine va_calli (va_runS (As := [.ref ya, .ref lv]) (rest := []) ⟨hx, hb, hml, hown, htb⟩ (k_VA_less l dC dI _ ya lv dy 0 ny ([] : List Nat) y.2 ([(t0.2.2.1, 0, t0.2.2.2.1, t0.2.2.2.2, [])]) cB cO em aK aV fz hvy hvl) (va_cwS 2 htb (g_S (fun _ h => h) m_1043 m_1041 m_1042 m_18) rfl rfl rfl (by decide +kernel) ⟨Nat.le_of_ble_eq_true rfl, Nat.le_of_ble_eq_true rfl⟩) ⟨fun a U g mk q => by obtain ⟨q0, q1, qP, qK, qD, z0⟩ := q; exact ⟨q0, q1, qP, va_K.moved (u := U) (U := U.calling g mk a) (Vm.Alike.refl U.vm) qK, qD, EX.same (U := U) (U' := U.calling g mk a) rfl z0⟩, fun U hU hW => ⟨rfl, by rw [hU], by rw [hU]; exact hPc, va_K.moved hW.alike hKc, hDc.weaken (fun _ _ _ _ => trivial), by rw [hU]; exact EX.warm hW ((hE.kept (fun a h1 h2 => hS.2.1 a h1 h2)).narrow hFc)⟩⟩ rfl rfl hl.1 rfl (lv_room (Nat.le_of_ble_eq_true rfl)) d_TE_holds_146 ⟨Nat.le_of_ble_eq_true rfl, Nat.le_of_ble_eq_true rfl⟩) hS (fun q _ h => hFc q h) hFc (fun r33 u32 t H1 locs ht hvm hw34 hB hz1 hk1 hS => ?_)
              obtain ⟨hP1, hK1, hD1⟩ := hB
              rw [ht] at hP1
              have hK1 := va_K.moved hvm.symm hK1
              replace hw34 : r33 = bI (lsV y.2 ([(t0.2.2.1, 0, t0.2.2.2.1, t0.2.2.2.2, [])])) := hw34
              obtain ⟨hP, hD⟩ := zz_join (pre := []) (fz := fz) (wc := []) (wr := []) (w1 := ([] ++ fz)) hP hD [] [] rfl rfl (by decide) (by decide) hk1 hFc hP1 hD1
              have hK := (hK.sub (tys' := []) [] rfl).app hK1
              generalize H1 = H at hP hS ⊢
              replace hP : va_P (dC, dI) vwCl ([] ++ fz) H := hP
              replace hD : va_D A ([] ++ fz) := hD
              replace hK : va_K (dC, dI) vwCl [(cB, .byte), (cO, .object "java/lang/Object")] s := hK
              clear hPc hDc hFc hKc hP1 hD1 hK1 hk1 hz1 ht hvm
              have hlr : r33 = bI (lsL y.2 t0.2.2) := by rw [hw34]; exact congrArg bI (lsV_r hk4)
              subst hlr
              refine lv_if_eq (tgt := 156) hx hb d_TE_holds_149 rfl (fun h6 => ?_) (fun h6 => ?_)
              · have h6 := bI_eq.mp h6
                refine lv_iconst (v := 0) hx hb d_TE_holds_156 (by decide) ?_
                have hP9 := zz_pickP (pre := []) (fz := fz) (wc := []) hP [] rfl
                have hD9 := zz_pickD (pre := []) (fz := fz) (wc := []) hD [] (by decide) rfl
                have hK9 := hK.sub (tys' := [(cB, .byte), (cO, .object "java/lang/Object")]) [0, 1] rfl
                rw [hQ]
                refine W.widen (k := 0) (n := 0) (Nat.le_of_ble_eq_true rfl) (Nat.le_of_ble_eq_true rfl) ?_
                exact W.zret (v := 0) hx hb hr (by decide) (fun t ht hW => ⟨⟨0, (), rfl, by rw [hhl, cm4, h5, h6]; rfl, ⟨by rw [ht]; exact hP9, va_K.moved hW.alike hK9, hD9⟩⟩, hS.F ht⟩) hS.2.2 d_TE_holds_157
              · have h6 := bI_ne.mp h6
                refine lv_iconst (v := 1) hx hb d_TE_holds_152 (by decide) ?_
                refine lv_goto (tgt := 157) hx hb d_TE_holds_153 rfl ?_
                have hP9 := zz_pickP (pre := []) (fz := fz) (wc := []) hP [] rfl
                have hD9 := zz_pickD (pre := []) (fz := fz) (wc := []) hD [] (by decide) rfl
                have hK9 := hK.sub (tys' := [(cB, .byte), (cO, .object "java/lang/Object")]) [0, 1] rfl
                rw [hQ]
                refine W.widen (k := 0) (n := 0) (Nat.le_of_ble_eq_true rfl) (Nat.le_of_ble_eq_true rfl) ?_
                exact W.zret (v := 1) hx hb hr (by decide) (fun t ht hW => ⟨⟨1, (), rfl, by rw [hhl, cm4, h5, h6]; rfl, ⟨by rw [ht]; exact hP9, va_K.moved hW.alike hK9, hD9⟩⟩, hS.F ht⟩) hS.2.2 d_TE_holds_157
          · rw [hsk] at hhl
            refine W.eq (g2 := F0 m 81 ls [.int (nI 5)]) (by rw [hsk]) ?_
            refine lv_tableIn (x := nI 5) (tgt := 158) hx hb d_TE_holds_81 (by decide) (by decide) rfl rfl ?_
            refine lv_aload_n hx hb d_TE_holds_158 rfl (lv_at hl 3 rfl) ?_
            obtain ⟨qz31, hz31⟩ := List.getElem?_of_mem (List.mem_append_right [] hoc)
            refine va_get (D := (dC, dI)) (ci := 11) (v := .ref lv) (C := R_TE) (T := T_TE) (N := 3) hx hb htb in_TE hown hK hP qz31 hz31 rfl 2 (by decide) (htb _ m_976) (fun _ h9 => h9) rfl d_TE_holds_159 ?_
            refine lv_aload_n hx hb d_TE_holds_162 rfl (lv_at hl 1 rfl) ?_
            have hPc := zz_pickP (pre := []) (fz := fz) (wc := []) hP [] rfl
            have hDc := zz_pickD (pre := []) (fz := fz) (wc := []) hD [] (by decide) rfl
            have hFc := zz_free (pre := []) (fz := fz) (wc := []) hD hS hA [] rfl
            have hKc := hK.sub (tys' := [(cB, .byte), (cO, .object "java/lang/Object")]) [0, 1] rfl
            refine va_calli (va_runS (As := [.ref lv, .ref ya]) (rest := []) ⟨hx, hb, hml, hown, htb⟩ (k_VA_less l dC dI _ lv ya 0 dy ([] : List Nat) ny ([(t0.2.2.1, 0, t0.2.2.2.1, t0.2.2.2.2, [])]) y.2 cB cO em aK aV fz hvl hvy) (va_cwS 2 htb (g_S (fun _ h => h) m_1043 m_1041 m_1042 m_18) rfl rfl rfl (by decide +kernel) ⟨Nat.le_of_ble_eq_true rfl, Nat.le_of_ble_eq_true rfl⟩) ⟨fun a U g mk q => by obtain ⟨q0, q1, qP, qK, qD, z0⟩ := q; exact ⟨q0, q1, qP, va_K.moved (u := U) (U := U.calling g mk a) (Vm.Alike.refl U.vm) qK, qD, EX.same (U := U) (U' := U.calling g mk a) rfl z0⟩, fun U hU hW => ⟨rfl, by rw [hU], by rw [hU]; exact hPc, va_K.moved hW.alike hKc, hDc.weaken (fun _ _ _ _ => trivial), by rw [hU]; exact EX.warm hW ((hE.kept (fun a h1 h2 => hS.2.1 a h1 h2)).narrow hFc)⟩⟩ rfl rfl hl.1 rfl (lv_room (Nat.le_of_ble_eq_true rfl)) d_TE_holds_163 ⟨Nat.le_of_ble_eq_true rfl, Nat.le_of_ble_eq_true rfl⟩) hS (fun q _ h => hFc q h) hFc (fun r33 u32 t H1 locs ht hvm hw34 hB hz1 hk1 hS => ?_)
            obtain ⟨hP1, hK1, hD1⟩ := hB
            rw [ht] at hP1
            have hK1 := va_K.moved hvm.symm hK1
            replace hw34 : r33 = bI (lsV ([(t0.2.2.1, 0, t0.2.2.2.1, t0.2.2.2.2, [])]) y.2) := hw34
            obtain ⟨hP, hD⟩ := zz_join (pre := []) (fz := fz) (wc := []) (wr := []) (w1 := ([] ++ fz)) hP hD [] [] rfl rfl (by decide) (by decide) hk1 hFc hP1 hD1
            have hK := (hK.sub (tys' := []) [] rfl).app hK1
            generalize H1 = H at hP hS ⊢
            replace hP : va_P (dC, dI) vwCl ([] ++ fz) H := hP
            replace hD : va_D A ([] ++ fz) := hD
            replace hK : va_K (dC, dI) vwCl [(cB, .byte), (cO, .object "java/lang/Object")] s := hK
            clear hPc hDc hFc hKc hP1 hD1 hK1 hk1 hz1 ht hvm
            have hlr : r33 = bI (grL y.2 t0.2.2) := by rw [hw34]; exact congrArg bI (lsV_l hk4)
            subst hlr
            have hP9 := zz_pickP (pre := []) (fz := fz) (wc := []) hP [] rfl
            have hD9 := zz_pickD (pre := []) (fz := fz) (wc := []) hD [] (by decide) rfl
            have hK9 := hK.sub (tys' := [(cB, .byte), (cO, .object "java/lang/Object")]) [0, 1] rfl
            rw [hQ]
            refine W.widen (k := 0) (n := 0) (Nat.le_of_ble_eq_true rfl) (Nat.le_of_ble_eq_true rfl) ?_
            exact W.zret (v := (bI (grL y.2 t0.2.2))) hx hb hr (bI_nar) (fun t ht hW => ⟨⟨(bI (grL y.2 t0.2.2)), (), rfl, by rw [hhl, cm5], ⟨by rw [ht]; exact hP9, va_K.moved hW.alike hK9, hD9⟩⟩, hS.F ht⟩) hS.2.2 d_TE_holds_166
          · rw [hsk] at hhl
            refine W.eq (g2 := F0 m 81 ls [.int (nI 6)]) (by rw [hsk]) ?_
            refine lv_tableOut (x := nI 6) (tgt := 167) hx hb d_TE_holds_81 (by decide) rfl ?_
            refine lv_iload_n hx hb d_TE_holds_167 rfl (lv_at hl 0 rfl) ?_
            refine lv_if_ne (tgt := 182) hx hb d_TE_holds_168 rfl (fun h5 => ?_) (fun h5 => ?_)
            · have h5 := bI_ne.mp h5
              refine lv_iconst (v := 1) hx hb d_TE_holds_182 (by decide) ?_
              refine lv_goto (tgt := 187) hx hb d_TE_holds_183 rfl ?_
              have hP9 := zz_pickP (pre := []) (fz := fz) (wc := []) hP [] rfl
              have hD9 := zz_pickD (pre := []) (fz := fz) (wc := []) hD [] (by decide) rfl
              have hK9 := hK.sub (tys' := [(cB, .byte), (cO, .object "java/lang/Object")]) [0, 1] rfl
              rw [hQ]
              refine W.widen (k := 0) (n := 0) (Nat.le_of_ble_eq_true rfl) (Nat.le_of_ble_eq_true rfl) ?_
              exact W.zret (v := 1) hx hb hr (by decide) (fun t ht hW => ⟨⟨1, (), rfl, by rw [hhl, cm6, h5]; rfl, ⟨by rw [ht]; exact hP9, va_K.moved hW.alike hK9, hD9⟩⟩, hS.F ht⟩) hS.2.2 d_TE_holds_187
            · have h5 := bI_eq.mp h5
              refine lv_aload_n hx hb d_TE_holds_171 rfl (lv_at hl 3 rfl) ?_
              obtain ⟨qz31, hz31⟩ := List.getElem?_of_mem (List.mem_append_right [] hoc)
              refine va_get (D := (dC, dI)) (ci := 11) (v := .ref lv) (C := R_TE) (T := T_TE) (N := 3) hx hb htb in_TE hown hK hP qz31 hz31 rfl 2 (by decide) (htb _ m_976) (fun _ h9 => h9) rfl d_TE_holds_172 ?_
              refine lv_aload_n hx hb d_TE_holds_175 rfl (lv_at hl 1 rfl) ?_
              have hPc := zz_pickP (pre := []) (fz := fz) (wc := []) hP [] rfl
              have hDc := zz_pickD (pre := []) (fz := fz) (wc := []) hD [] (by decide) rfl
              have hFc := zz_free (pre := []) (fz := fz) (wc := []) hD hS hA [] rfl
              have hKc := hK.sub (tys' := [(cB, .byte), (cO, .object "java/lang/Object")]) [0, 1] rfl
              refine va_calli (va_runS (As := [.ref lv, .ref ya]) (rest := []) ⟨hx, hb, hml, hown, htb⟩ (k_VA_less l dC dI _ lv ya 0 dy ([] : List Nat) ny ([(t0.2.2.1, 0, t0.2.2.2.1, t0.2.2.2.2, [])]) y.2 cB cO em aK aV fz hvl hvy) (va_cwS 2 htb (g_S (fun _ h => h) m_1043 m_1041 m_1042 m_18) rfl rfl rfl (by decide +kernel) ⟨Nat.le_of_ble_eq_true rfl, Nat.le_of_ble_eq_true rfl⟩) ⟨fun a U g mk q => by obtain ⟨q0, q1, qP, qK, qD, z0⟩ := q; exact ⟨q0, q1, qP, va_K.moved (u := U) (U := U.calling g mk a) (Vm.Alike.refl U.vm) qK, qD, EX.same (U := U) (U' := U.calling g mk a) rfl z0⟩, fun U hU hW => ⟨rfl, by rw [hU], by rw [hU]; exact hPc, va_K.moved hW.alike hKc, hDc.weaken (fun _ _ _ _ => trivial), by rw [hU]; exact EX.warm hW ((hE.kept (fun a h1 h2 => hS.2.1 a h1 h2)).narrow hFc)⟩⟩ rfl rfl hl.1 rfl (lv_room (Nat.le_of_ble_eq_true rfl)) d_TE_holds_176 ⟨Nat.le_of_ble_eq_true rfl, Nat.le_of_ble_eq_true rfl⟩) hS (fun q _ h => hFc q h) hFc (fun r33 u32 t H1 locs ht hvm hw34 hB hz1 hk1 hS => ?_)
              obtain ⟨hP1, hK1, hD1⟩ := hB
              rw [ht] at hP1
              have hK1 := va_K.moved hvm.symm hK1
              replace hw34 : r33 = bI (lsV ([(t0.2.2.1, 0, t0.2.2.2.1, t0.2.2.2.2, [])]) y.2) := hw34
              obtain ⟨hP, hD⟩ := zz_join (pre := []) (fz := fz) (wc := []) (wr := []) (w1 := ([] ++ fz)) hP hD [] [] rfl rfl (by decide) (by decide) hk1 hFc hP1 hD1
              have hK := (hK.sub (tys' := []) [] rfl).app hK1
              generalize H1 = H at hP hS ⊢
              replace hP : va_P (dC, dI) vwCl ([] ++ fz) H := hP
              replace hD : va_D A ([] ++ fz) := hD
              replace hK : va_K (dC, dI) vwCl [(cB, .byte), (cO, .object "java/lang/Object")] s := hK
              clear hPc hDc hFc hKc hP1 hD1 hK1 hk1 hz1 ht hvm
              have hlr : r33 = bI (grL y.2 t0.2.2) := by rw [hw34]; exact congrArg bI (lsV_l hk4)
              subst hlr
              refine lv_if_eq (tgt := 186) hx hb d_TE_holds_179 rfl (fun h6 => ?_) (fun h6 => ?_)
              · have h6 := bI_eq.mp h6
                refine lv_iconst (v := 0) hx hb d_TE_holds_186 (by decide) ?_
                have hP9 := zz_pickP (pre := []) (fz := fz) (wc := []) hP [] rfl
                have hD9 := zz_pickD (pre := []) (fz := fz) (wc := []) hD [] (by decide) rfl
                have hK9 := hK.sub (tys' := [(cB, .byte), (cO, .object "java/lang/Object")]) [0, 1] rfl
                rw [hQ]
                refine W.widen (k := 0) (n := 0) (Nat.le_of_ble_eq_true rfl) (Nat.le_of_ble_eq_true rfl) ?_
                exact W.zret (v := 0) hx hb hr (by decide) (fun t ht hW => ⟨⟨0, (), rfl, by rw [hhl, cm6, h5, h6]; rfl, ⟨by rw [ht]; exact hP9, va_K.moved hW.alike hK9, hD9⟩⟩, hS.F ht⟩) hS.2.2 d_TE_holds_187
              · have h6 := bI_ne.mp h6
                refine lv_iconst (v := 1) hx hb d_TE_holds_182 (by decide) ?_
                refine lv_goto (tgt := 187) hx hb d_TE_holds_183 rfl ?_
                have hP9 := zz_pickP (pre := []) (fz := fz) (wc := []) hP [] rfl
                have hD9 := zz_pickD (pre := []) (fz := fz) (wc := []) hD [] (by decide) rfl
                have hK9 := hK.sub (tys' := [(cB, .byte), (cO, .object "java/lang/Object")]) [0, 1] rfl
                rw [hQ]
                refine W.widen (k := 0) (n := 0) (Nat.le_of_ble_eq_true rfl) (Nat.le_of_ble_eq_true rfl) ?_
                exact W.zret (v := 1) hx hb hr (by decide) (fun t ht hW => ⟨⟨1, (), rfl, by rw [hhl, cm6, h5, h6]; rfl, ⟨by rw [ht]; exact hP9, va_K.moved hW.alike hK9, hD9⟩⟩, hS.F ht⟩) hS.2.2 d_TE_holds_187
        · have h1 : i < xs.length := Nat.not_le.mp (fun h => h1 ((nI_leI (by omega) (by omega)).mpr h))
          have hca := hxs i h1
          obtain ⟨fs0, hvin0⟩ := hca.vin
          obtain ⟨dy1, hdy1⟩ := hvy.succ
          have hvy1 : VT cB cO em aK (dy1 + 1) fz ya ny y.2 := hdy1 ▸ hvy
          refine lv_aload_n hx hb d_TE_holds_15 rfl (lv_at hl 1 rfl) ?_
          refine lv_ifnull hx hb d_TE_holds_16 ?_
          refine lv_aload_n hx hb d_TE_holds_19 rfl (lv_at hl 3 rfl) ?_
          obtain ⟨qz24, hz24⟩ := List.getElem?_of_mem (List.mem_append_right [] hoc)
          refine va_get (D := (dC, dI)) (ci := 11) (v := .ref al) (C := R_TE) (T := T_TE) (N := 3) hx hb htb in_TE hown hK hP qz24 hz24 rfl 0 (by decide) (htb _ m_974) (fun _ h9 => h9) rfl d_TE_holds_20 ?_
          refine lv_iload_n hx hb d_TE_holds_23 rfl (lv_at hl 0 rfl) ?_
          have hPc : va_P (dC, dI) vwCl ([] ++ fz) _ := zz_tlP (pre := []) (tl := fz) hP
          have hKc := hK.sub (tys' := [(cO, .object "java/lang/Object")]) [1] rfl
          refine va_csq (W.runV (As := [.int (nI i)]) (rest := []) ⟨hx, hb, hml, hown, htb⟩ (z_AL_get l dC dI al xs cO em i fz hal h1) (cwV 1 htb (g_V (fun _ h => h) m_490 m_1032 m_488 m_489 m_8) rfl rfl rfl (by decide +kernel) ⟨Nat.le_of_ble_eq_true rfl, Nat.le_of_ble_eq_true rfl⟩) ⟨fun a U g mk q => by obtain ⟨q0, qP, qK⟩ := q; exact ⟨q0, qP, va_K.moved (u := U) (U := U.calling g mk a) (Vm.Alike.refl U.vm) qK⟩, (hal).recv hK hP (fun q hq => List.mem_append_right _ hq), fun U hU hW => ⟨rfl, by rw [hU]; exact hPc, va_K.moved hW.alike hKc⟩⟩ rfl rfl hl.1 rfl (lv_room (Nat.le_of_ble_eq_true rfl)) d_TE_holds_24 ⟨Nat.le_of_ble_eq_true rfl, Nat.le_of_ble_eq_true rfl⟩) (fun r25 hw26 => ?_)
          replace hw26 : r25 = some (xs.getD i 0) := hw26
          clear hPc hKc
          obtain rfl := hw26
          refine W.eq (g2 := F0 m 27 ls [.ref (xs.getD i 0)]) rfl ?_
          refine va_castY (C := "PatchStore$Selector") hx hb hown (htb _ m_1033) (nw_17 hE) (zz_recv hK hP (ci := 10) rfl (List.mem_append_right _ hvin0)) d_TE_holds_27 ?_
          refine lv_aload_n hx hb d_TE_holds_30 rfl (lv_at hl 1 rfl) ?_
          have hPc := zz_pickP (pre := []) (fz := fz) (wc := []) hP [] rfl
          have hDc := zz_pickD (pre := []) (fz := fz) (wc := []) hD [] (by decide) rfl
          have hFc := zz_free (pre := []) (fz := fz) (wc := []) hD hS hA [] rfl
          have hKc := hK.sub (tys' := [(cB, .byte), (cO, .object "java/lang/Object")]) [0, 1] rfl
          refine va_callq (va_runV (As := [.ref ya]) (rest := []) ⟨hx, hb, hml, hown, htb⟩ (k_SE_oneIn l dC dI _ (xs.getD i 0) (t0.1.getD i acx0) fz ya dy1 ny y.2 cB cO em aK aV fz hca hvy1 (fun _ h => h)) (cwV 1 htb (g_V (fun _ h => h) m_1037 m_1034 m_1035 m_1036 m_26) rfl rfl rfl (by decide +kernel) ⟨Nat.le_of_ble_eq_true rfl, Nat.le_of_ble_eq_true rfl⟩) ⟨fun a U g mk q => by obtain ⟨q0, q1, qP, qK, qD, z0⟩ := q; exact ⟨q0, q1, qP, va_K.moved (u := U) (U := U.calling g mk a) (Vm.Alike.refl U.vm) qK, qD, EX.same (U := U) (U' := U.calling g mk a) rfl z0⟩, (zz_recv hK hP (ci := 10) rfl (List.mem_append_right _ hvin0)), fun U hU hW => ⟨rfl, by rw [hU], by rw [hU]; exact hPc, va_K.moved hW.alike hKc, hDc.weaken (fun _ _ _ _ => trivial), by rw [hU]; exact EX.warm hW ((hE.kept (fun a h1 h2 => hS.2.1 a h1 h2)).narrow hFc)⟩⟩ rfl rfl hl.1 rfl (lv_room (Nat.le_of_ble_eq_true rfl)) d_TE_holds_31 ⟨Nat.le_of_ble_eq_true rfl, Nat.le_of_ble_eq_true rfl⟩) hS (fun q _ h => hFc q h) hFc (fun r28 u27 t H1 locs ht hvm hw29 hB hz1 hk1 hS => ?_)
          obtain ⟨hP1, hK1, hD1⟩ := hB
          rw [ht] at hP1
          have hK1 := va_K.moved hvm.symm hK1
          replace hw29 : (r28 = none ∧ acR (t0.1.getD i acx0) y.2 = none) ∨ ∃ t8 y8 n8, r28 = some y8 ∧ acR (t0.1.getD i acx0) y.2 = some t8 ∧ t8 < (ksR y.2).length ∧ VT cB cO em aK dy1 fz y8 n8 ((ksR y.2).getD t8 []) := hw29
          obtain ⟨hP, hD⟩ := zz_join (pre := []) (fz := fz) (wc := []) (wr := []) (w1 := ([] ++ fz)) hP hD [] [] rfl rfl (by decide) (by decide) hk1 hFc hP1 hD1
          have hK := (hK.sub (tys' := []) [] rfl).app hK1
          generalize H1 = H at hP hS ⊢
          replace hP : va_P (dC, dI) vwCl ([] ++ fz) H := hP
          replace hD : va_D A ([] ++ fz) := hD
          replace hK : va_K (dC, dI) vwCl [(cB, .byte), (cO, .object "java/lang/Object")] s := hK
          clear hPc hDc hFc hKc hP1 hD1 hK1 hk1 hz1 ht hvm
          obtain ⟨rfl, hon⟩ | ⟨t8, y8, n8, rfl, hon, hlt8, hvk⟩ := hw29
          · refine W.eq (g2 := F0 m 34 ls [.null]) rfl ?_
            have hno := accs_bad (by omega) hac hon
            refine lv_astore_nN hx hb d_TE_holds_34 rfl hl (by decide) rfl (fun ls hl => ?_)
            replace hl : lv_has ls 4 [(2, .null), (3, .int (nI i)), (1, .ref a), (0, .ref o)] := hl
            refine lv_iinc (k := 1) (v := ((nI i) + Int32.ofInt 1)) hx hb d_TE_holds_35 hl rfl rfl (by decide) rfl (fun ls hl => ?_)
            replace hl : lv_has ls 4 [(3, .int ((nI i) + Int32.ofInt 1)), (2, .null), (1, .ref a), (0, .ref o)] := hl
            refine lv_goto (tgt := 4) hx hb d_TE_holds_38 rfl ?_
            refine lv_iload_n hx hb d_TE_holds_4 rfl (lv_at hl 0 rfl) ?_
            refine lv_aload_n hx hb d_TE_holds_5 rfl (lv_at hl 3 rfl) ?_
            obtain ⟨qz31, hz31⟩ := List.getElem?_of_mem (List.mem_append_right [] hoc)
            refine va_get (D := (dC, dI)) (ci := 11) (v := .ref al) (C := R_TE) (T := T_TE) (N := 3) hx hb htb in_TE hown hK hP qz31 hz31 rfl 0 (by decide) (htb _ m_974) (fun _ h9 => h9) rfl d_TE_holds_6 ?_
            have hPc : va_P (dC, dI) vwCl ([] ++ fz) _ := zz_tlP (pre := []) (tl := fz) hP
            have hKc := hK.sub (tys' := []) [] rfl
            refine vp_callSi (W.runV (As := []) (rest := [.int ((nI i) + Int32.ofInt 1)]) ⟨hx, hb, hml, hown, htb⟩ (z_AL_size l dC dI al xs cO em fz hal) (cwV 0 htb (g_V (fun _ h => h) m_486 m_1031 m_484 m_485 m_8) rfl rfl rfl (by decide +kernel) ⟨Nat.le_of_ble_eq_true rfl, Nat.le_of_ble_eq_true rfl⟩) ⟨fun a U g mk q => by obtain ⟨q0, qP, qK⟩ := q; exact ⟨q0, qP, va_K.moved (u := U) (U := U.calling g mk a) (Vm.Alike.refl U.vm) qK⟩, (hal).recv hK hP (fun q hq => List.mem_append_right _ hq), fun U hU hW => ⟨rfl, by rw [hU]; exact hPc, va_K.moved hW.alike hKc⟩⟩ rfl rfl hl.1 rfl (lv_room (Nat.le_of_ble_eq_true rfl)) d_TE_holds_9 ⟨Nat.le_of_ble_eq_true rfl, Nat.le_of_ble_eq_true rfl⟩) (fun r32 hw33 => ?_)
            replace hw33 : r32 = nI xs.length := hw33
            clear hPc hKc
            obtain rfl := hw33
            refine lv_icmp_ge (tgt := 41) hx hb d_TE_holds_12 rfl (fun h7 => ?_) (fun h7 => ?_)
            · exact hjoinN  _ _ ls (hno) (lv_sub hl [1, 2, 3] rfl) (zz_pickP (pre := []) (fz := fz) (wc := []) hP [] rfl) (zz_pickD (pre := []) (fz := fz) (wc := []) hD [] (by decide) rfl) hS
            · refine lv_aload_nN hx hb d_TE_holds_15 rfl (lv_at hl 1 rfl) ?_
              refine lv_ifnullN (tgt := 41) hx hb d_TE_holds_16 rfl ?_
              exact hjoinN  _ _ ls (hno) (lv_sub hl [1, 2, 3] rfl) (zz_pickP (pre := []) (fz := fz) (wc := []) hP [] rfl) (zz_pickD (pre := []) (fz := fz) (wc := []) hD [] (by decide) rfl) hS
          · refine W.eq (g2 := F0 m 34 ls [.ref y8]) rfl ?_
            refine lv_astore_n hx hb d_TE_holds_34 rfl hl (by decide) rfl (fun ls hl => ?_)
            replace hl : lv_has ls 4 [(2, .ref y8), (3, .int (nI i)), (1, .ref a), (0, .ref o)] := hl
            refine lv_iinc (k := 1) (v := ((nI i) + Int32.ofInt 1)) hx hb d_TE_holds_35 hl rfl rfl (by decide) rfl (fun ls hl => ?_)
            replace hl : lv_has ls 4 [(3, .int ((nI i) + Int32.ofInt 1)), (2, .ref y8), (1, .ref a), (0, .ref o)] := hl
            rw [show nI i + Int32.ofInt 1 = nI (i + 1) from nI_1 _] at hl
            replace hl : lv_has ls 4 [(3, .int (nI (i + 1))), (2, .ref y8), (1, .ref a), (0, .ref o)] := hl
            refine lv_goto (tgt := 4) hx hb d_TE_holds_38 rfl ?_
            exact ih (xs.length - (i + 1)) (by omega) (i + 1) y8 (kidL y t8) dy1 n8 H locs ls rfl (by omega) (accs_go (by omega) hac hon) (hvk) (by omega) (lv_sub hl [0, 1, 2, 3] rfl) (zz_pickP (pre := []) (fz := fz) (wc := []) hP [] rfl) (zz_pickD (pre := []) (fz := fz) (wc := []) hD [] (by decide) rfl) hS
    exact hloop _ 0 a x (d + 1) nn _ _ ls rfl (Nat.zero_le _) (rfl) (hv) (by omega) (lv_sub hl [0, 1, 3, 2] rfl) (zz_pickP (pre := []) (fz := fz) (wc := []) hP [] rfl) (zz_pickD (pre := []) (fz := fz) (wc := []) hD [] (by decide) rfl) hS
