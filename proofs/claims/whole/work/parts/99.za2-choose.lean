set_option maxHeartbeats 1000000 in
set_option maxRecDepth 100000 in
/-- choose(value, list) -/
theorem k_SE_choose (l : Launch) (dC : Nat → ClassId) (dI : Nat → Nat → Nat) (sz : Nat) (o : Nat) (s0 : Sel) (a : Nat) (d : Nat) (nn : List Nat) (x : Plc) (pl : Nat) (xs : List Nat) (LS : List Plc) (cB : ClassId) (cO : ClassId) (em : Nat) (aK : Nat → Nat) (aV : Nat → Nat) (lz : va_W) (fz : va_W) (hsl : SLz cB cO em aK fz s0 o) (hv : VT cB cO em aK (d + 1) fz a nn x.2) (hd9 : d ≤ 11) (h32 : x.2.length ≤ 32) (hal : ALc cO em pl xs lz) (hls : VLS cB cO em aK fz xs LS) (hx40 : xs.length ≤ 40) : Met l y_SE_choose ws_SE_choose ({ frames := 85, cells := (acl (xs.length + (chs s0 x).length) - acl xs.length), slots := (asl (xs.length + (chs s0 x).length) - asl xs.length), locals := 2500 }) (va_Pc [.ref o, .ref a, .ref pl] (fun U => U.heap.size = sz ∧ va_P (dC, dI) vwCl ([] ++ (lz ++ fz)) U.heap ∧ va_K (dC, dI) vwCl [(cB, .byte), (cO, .object "java/lang/Object")] U ∧ va_D (fun _ => True) ([] ++ (lz ++ fz)) ∧ EX em aK aV (va_A ([] ++ (lz ++ fz)) sz) U U.heap)) (va_Qv (fun (u : va_W × List Nat) => ALc cO em pl (xs ++ u.2) u.1 ∧ VLS cB cO em aK fz u.2 (chs s0 x)) (fun u t => va_P (dC, dI) vwCl ([] ++ (u.1 ++ fz)) t.heap ∧ va_K (dC, dI) vwCl [(cB, .byte), (cO, .object "java/lang/Object")] t ∧ va_D (va_A ([] ++ (lz ++ fz)) sz) ([] ++ (u.1 ++ fz))) (va_A ([] ++ (lz ++ fz)) sz)) (acl (xs.length + (chs s0 x).length) - acl xs.length) (asl (xs.length + (chs s0 x).length) - asl xs.length) (va_A ([] ++ (lz ++ fz)) sz) := by
  refine Met.ofW (cc := c_SE_choose) (maxL := 5) (ret := none) (by decide) rfl ?_
  intro p e s m args below meth c s₁ B hml hv
  obtain ⟨hargs, hsz, hP, hK, hD0, hE⟩ := hv
  rw [show entryFrame m args 5 = entryFrame m ([.ref o, .ref a, .ref pl]).toArray 5 by rw [hargs]]
  have hx := B.exec
  have hb := B.bytes
  have hr := B.returns
  have hts := atoms_spec (ws := ws_SE_choose) B.pre
  have htb := fun w (h : w ∈ TBL) => hts w (List.mem_cons_of_mem _ h)
  have hown : s.vm.findClass R_SE = some m.cls := findClass_of_methodNamed B.named
  have hlocks := B.notSynchronized
  subst hsz
  have hD := hD0.self (sz := s.heap.size)
  generalize hAe : va_A ([] ++ (lz ++ fz)) s.heap.size = A at hD hE ⊢
  have hA : ∀ q : Nat, s.heap.size ≤ q → A q := fun q h => by rw [← hAe]; exact Or.inr h
  have hS : va_S A s.heap s.heap [] := va_S.rf
  have hP : va_P (dC, dI) vwCl ([] ++ (lz ++ fz)) s.heap := hP
  have hl := lv_entry ([.ref o, .ref a, .ref pl]) (n := 5) (Nat.le_of_ble_eq_true rfl)
  rw [lg_entry_eq]
  generalize (lg_sl ([.ref o, .ref a, .ref pl]) ++ List.replicate (5 - (lg_sl ([.ref o, .ref a, .ref pl])).length) Slot.unset).toArray = ls at hl ⊢
  replace hl : lv_has ls 5 [(0, .ref o), (1, .ref a), (2, .ref pl)] := hl
  refine zz_nQ (fun Q hQ => ?_)
  have hgr : ∀ q ∈ fz, q ∈ (lz ++ fz) := fun q hq => List.mem_append_right _ hq
  have hk32 := ks_32 hv h32
  have hcl := chs_len (s := s0) hk32
  rcases hsl with hsl | hsl | hsl | hsl | hsl
  · obtain ⟨e0, hsc⟩ := hsl
    have hcs : chs s0 x = kidsL x := by rw [e0]; rfl
    refine lv_aload_n hx hb d_SE_choose_0 rfl (lv_at hl 0 rfl) ?_
    obtain ⟨qz21, hz21⟩ := List.getElem?_of_mem (List.mem_append_right [] (hgr _ hsc))
    refine va_get (D := (dC, dI)) (ci := 10) (v := .int 0) (C := R_SE) (T := T_SE) (N := 6) hx hb htb in_SE hown hK hP qz21 hz21 rfl 0 (by decide) (htb _ m_899) (fun _ h9 => h9) rfl d_SE_choose_1 ?_
    refine lv_iconst (v := 3) hx hb d_SE_choose_4 (by decide) ?_
    refine lv_icmp_ne (tgt := 17) hx hb d_SE_choose_5 rfl (fun _ => ?_) (fun h9 => absurd h9 (by decide))
    refine lv_aload_n hx hb d_SE_choose_17 rfl (lv_at hl 0 rfl) ?_
    obtain ⟨qz22, hz22⟩ := List.getElem?_of_mem (List.mem_append_right [] (hgr _ hsc))
    refine va_get (D := (dC, dI)) (ci := 10) (v := .int 0) (C := R_SE) (T := T_SE) (N := 6) hx hb htb in_SE hown hK hP qz22 hz22 rfl 0 (by decide) (htb _ m_899) (fun _ h9 => h9) rfl d_SE_choose_18 ?_
    refine lv_if_eq (tgt := 32) hx hb d_SE_choose_21 rfl (fun _ => ?_) (fun h9 => absurd (rfl) h9)
    obtain ⟨kd, tx, nu, nm, pa, dp, cn, tt, kk, num, rt, ks, ns, hc, htx, hnm, hkl, hhd, hnl, hrl, hkf, hvl, hhk, hns, hdp, hcn, hrw, h160⟩ := (id hv : VT cB cO em aK (d + 1) fz a nn x.2).opn
    refine lv_iconst (v := 0) hx hb d_SE_choose_32 (by decide) ?_
    refine lv_istore_n hx hb d_SE_choose_33 rfl hl (by decide) rfl (fun ls hl => ?_)
    replace hl : lv_has ls 5 [(3, .int 0), (0, .ref o), (1, .ref a), (2, .ref pl)] := hl
    replace hl : lv_has ls 5 [(3, .int (nI 0)), (0, .ref o), (1, .ref a), (2, .ref pl)] := hl
    have hloop : ∀ (k9 : Nat) (i : Nat) (lz1 : va_W) (x1 : List Nat) (H : Heap) (locs : List Loc) (ls : Array Slot), ks.length - i = k9 → (i ≤ ks.length) → (ALc cO em pl (xs ++ x1) lz1) → (VLS cB cO em aK fz x1 ((kidsL x).take i)) → lv_has ls 5 [(3, .int (nI i)), (2, .ref pl), (1, .ref a), (0, .ref o)] → va_P (dC, dI) vwCl ([] ++ (lz1 ++ fz)) H → va_D A ([] ++ (lz1 ++ fz)) → va_S A s.heap H locs → W p l e (headSpec ws_SE_choose ({ frames := 85, cells := (acl (xs.length + (chs s0 x).length) - acl xs.length), slots := (asl (xs.length + (chs s0 x).length) - asl xs.length), locals := 2500 })).room s m args below meth c H locs (acl (xs.length + x1.length) - acl xs.length) (asl (xs.length + x1.length) - asl xs.length) Q (F0 m 34 ls []) := by
      intro k9
      induction k9 using Nat.strongRecOn with
      | ind k9 ih =>
        intro i lz1 x1 H locs ls hk9 hi0 hiL hi6 hl hP hD hS
        have hdl : ((kidsL x).take i).length ≤ (chs s0 x).length := by rw [hcs]; exact (List.take_prefix _ _).length_le
        have hx1 := hi6.1
        have hup := ac_up (xs.length + x1.length) (xs.length + (chs s0 x).length) (by omega) (by omega)
        have hgr1 : ∀ q ∈ fz, q ∈ (lz1 ++ fz) := fun q hq => List.mem_append_right _ hq
        have hkl9 := hkl.mono hgr1
        refine lv_iload_n hx hb d_SE_choose_34 rfl (lv_at hl 0 rfl) ?_
        refine lv_aload_n hx hb d_SE_choose_35 rfl (lv_at hl 2 rfl) ?_
        obtain ⟨qz23, hz23⟩ := List.getElem?_of_mem (List.mem_append_right [] (hgr1 _ hc))
        refine va_get (D := (dC, dI)) (ci := 3) (v := .ref pa) (C := R_VA) (T := T_VA) (N := 7) hx hb htb in_VA hown hK hP qz23 hz23 rfl 4 (by decide) (htb _ m_398) (fun _ h9 => h9) rfl d_SE_choose_36 ?_
        have hPc : va_P (dC, dI) vwCl ([] ++ (lz1 ++ fz)) _ := zz_tlP (pre := []) (tl := (lz1 ++ fz)) hP
        have hKc := hK.sub (tys' := []) [] rfl
        refine vp_callSi (W.runV (As := []) (rest := [.int (nI i)]) ⟨hx, hb, hml, hown, htb⟩ (z_AL_size l dC dI pa ks cO em (lz1 ++ fz) hkl9) (cwV 0 htb (g_V (fun _ h => h) m_486 m_1018 m_484 m_485 m_8) rfl rfl rfl (by decide +kernel) ⟨Nat.le_of_ble_eq_true rfl, Nat.le_of_ble_eq_true rfl⟩) ⟨fun a U g mk q => by obtain ⟨q0, qP, qK⟩ := q; exact ⟨q0, qP, va_K.moved (u := U) (U := U.calling g mk a) (Vm.Alike.refl U.vm) qK⟩, (hkl9).recv hK hP (fun q hq => List.mem_append_right _ hq), fun U hU hW => ⟨rfl, by rw [hU]; exact hPc, va_K.moved hW.alike hKc⟩⟩ rfl rfl hl.1 rfl (lv_room (Nat.le_of_ble_eq_true rfl)) d_SE_choose_39 ⟨(by show (acl (xs.length + x1.length) - acl xs.length) ≤ (acl (xs.length + (chs s0 x).length) - acl xs.length); omega), (by show (asl (xs.length + x1.length) - asl xs.length) ≤ (asl (xs.length + (chs s0 x).length) - asl xs.length); omega)⟩) (fun r24 hw25 => ?_)
        replace hw25 : r24 = nI ks.length := hw25
        clear hPc hKc
        obtain rfl := hw25
        refine lv_icmp_ge (tgt := 90) hx hb d_SE_choose_42 rfl (fun h1 => ?_) (fun h1 => ?_)
        · have h1 : ks.length ≤ i := (nI_leI (by omega) (by omega)).mp h1
          rw [List.take_of_length_le (by rw [kidsL_len]; omega)] at hi6
          refine lv_goto (tgt := 109) hx hb d_SE_choose_90 rfl ?_
          have hP9 := zz_pickP (pre := []) (fz := (lz1 ++ fz)) (wc := []) hP [] rfl
          have hD9 := zz_pickD (pre := []) (fz := (lz1 ++ fz)) (wc := []) hD [] (by decide) rfl
          have hK9 := hK.sub (tys' := [(cB, .byte), (cO, .object "java/lang/Object")]) [0, 1] rfl
          rw [hQ]
          refine W.widen (k := (acl (xs.length + (chs s0 x).length) - acl xs.length)) (n := (asl (xs.length + (chs s0 x).length) - asl xs.length)) ((by show (acl (xs.length + x1.length) - acl xs.length) ≤ (acl (xs.length + (chs s0 x).length) - acl xs.length); omega)) ((by show (asl (xs.length + x1.length) - asl xs.length) ≤ (asl (xs.length + (chs s0 x).length) - asl xs.length); omega)) ?_
          exact W.vret hx hb hr (fun t ht hW => ⟨⟨(lz1, x1), rfl, ⟨hiL, by rw [hcs]; exact hi6⟩, ⟨by rw [ht]; exact hP9, va_K.moved hW.alike hK9, hD9⟩⟩, hS.F ht⟩) hS.2.2 d_SE_choose_109
        · have h1 : i < ks.length := Nat.not_le.mp (fun h => h1 ((nI_leI (by omega) (by omega)).mpr h))
          have hik : i < (ksR x.2).length := by omega
          have hvt := hvl i h1
          obtain ⟨kd0, tx0, nu0, nm0, pa0, dp0, cn0, hc0, hn0⟩ := hvt.cellN
          refine lv_aload_n hx hb d_SE_choose_45 rfl (lv_at hl 2 rfl) ?_
          obtain ⟨qz26, hz26⟩ := List.getElem?_of_mem (List.mem_append_right [] (hgr1 _ hc))
          refine va_get (D := (dC, dI)) (ci := 3) (v := .ref pa) (C := R_VA) (T := T_VA) (N := 7) hx hb htb in_VA hown hK hP qz26 hz26 rfl 4 (by decide) (htb _ m_398) (fun _ h9 => h9) rfl d_SE_choose_46 ?_
          refine lv_iload_n hx hb d_SE_choose_49 rfl (lv_at hl 0 rfl) ?_
          have hPc : va_P (dC, dI) vwCl ([] ++ (lz1 ++ fz)) _ := zz_tlP (pre := []) (tl := (lz1 ++ fz)) hP
          have hKc := hK.sub (tys' := [(cO, .object "java/lang/Object")]) [1] rfl
          refine va_csq (W.runV (As := [.int (nI i)]) (rest := []) ⟨hx, hb, hml, hown, htb⟩ (z_AL_get l dC dI pa ks cO em i (lz1 ++ fz) hkl9 h1) (cwV 1 htb (g_V (fun _ h => h) m_490 m_1024 m_488 m_489 m_8) rfl rfl rfl (by decide +kernel) ⟨Nat.le_of_ble_eq_true rfl, Nat.le_of_ble_eq_true rfl⟩) ⟨fun a U g mk q => by obtain ⟨q0, qP, qK⟩ := q; exact ⟨q0, qP, va_K.moved (u := U) (U := U.calling g mk a) (Vm.Alike.refl U.vm) qK⟩, (hkl9).recv hK hP (fun q hq => List.mem_append_right _ hq), fun U hU hW => ⟨rfl, by rw [hU]; exact hPc, va_K.moved hW.alike hKc⟩⟩ rfl rfl hl.1 rfl (lv_room (Nat.le_of_ble_eq_true rfl)) d_SE_choose_50 ⟨(by show (acl (xs.length + x1.length) - acl xs.length) ≤ (acl (xs.length + (chs s0 x).length) - acl xs.length); omega), (by show (asl (xs.length + x1.length) - asl xs.length) ≤ (asl (xs.length + (chs s0 x).length) - asl xs.length); omega)⟩) (fun r27 hw28 => ?_)
          replace hw28 : r27 = some (ks.getD i 0) := hw28
          clear hPc hKc
          obtain rfl := hw28
          refine W.eq (g2 := F0 m 53 ls [.ref (ks.getD i 0)]) rfl ?_
          refine va_castY (C := "PatchStore$Value") hx hb hown (htb _ m_1025) (nw_14 hE) (zz_recv hK hP (ci := 3) rfl (List.mem_append_right _ (hgr1 _ hc0))) d_SE_choose_53 ?_
          refine lv_astore hx hb d_SE_choose_56 hl (by decide) rfl (fun ls hl => ?_)
          replace hl : lv_has ls 5 [(4, .ref (ks.getD i 0)), (3, .int (nI i)), (2, .ref pl), (1, .ref a), (0, .ref o)] := hl
          refine lv_aload_n hx hb d_SE_choose_58 rfl (lv_at hl 4 rfl) ?_
          obtain ⟨qz29, hz29⟩ := List.getElem?_of_mem (List.mem_append_right [] (hgr1 _ hsc))
          refine va_get (D := (dC, dI)) (ci := 10) (v := .null) (C := R_SE) (T := T_SE) (N := 6) hx hb htb in_SE hown hK hP qz29 hz29 rfl 5 (by decide) (htb _ m_904) (fun _ h9 => h9) rfl d_SE_choose_59 ?_
          refine lv_ifnullN (tgt := 77) hx hb d_SE_choose_62 rfl ?_
          have hdl2 : x1.length + 1 ≤ (chs s0 x).length := kid_roomA hcs hik (by omega)
          have hup2 := ac_up (xs.length + x1.length + 1) (xs.length + (chs s0 x).length) (by omega) (by omega)
          refine lv_aload_n hx hb d_SE_choose_77 rfl (lv_at hl 2 rfl) ?_
          refine lv_aload hx hb d_SE_choose_78 (lv_at hl 0 rfl) ?_
          have hac1 := ac_mono (xs.length + x1.length) (by omega)
          have hau := ac_up xs.length (xs.length + x1.length) (by omega) (by omega)
          have hlx : (xs ++ x1).length = xs.length + x1.length := List.length_append
          rw [← hlx] at hac1 hau
          have hax0 : acl (xs.length + x1.length) = acl (xs ++ x1).length := by rw [hlx]
          have hay0 : asl (xs.length + x1.length) = asl (xs ++ x1).length := by rw [hlx]
          have hax2 : acl (xs.length + x1.length + 1) = acl ((xs ++ x1).length + 1) := by rw [hlx]
          have hay2 : asl (xs.length + x1.length + 1) = asl ((xs ++ x1).length + 1) := by rw [hlx]
          have hPc := zz_pickP (pre := []) (fz := (lz1 ++ fz)) (wc := []) hP [] rfl
          have hDc := zz_pickD (pre := []) (fz := (lz1 ++ fz)) (wc := []) hD [] (by decide) rfl
          have hFc := zz_free (pre := []) (fz := (lz1 ++ fz)) (wc := []) hD hS hA [] rfl
          have hKc := hK.sub (tys' := [(cO, .object "java/lang/Object")]) [1] rfl
          refine va_calli (va_runV (As := [.ref (ks.getD i 0)]) (rest := []) ⟨hx, hb, hml, hown, htb⟩ (k_AL_add l dC dI _ pl (xs ++ x1) cO 3 (ks.getD i 0) em aK aV lz1 fz Oci3 hiL ((hls.cat hi6).vin) ((hvt).vin) (by rw [List.length_append]; omega)) (cwV 1 htb (g_V (fun _ h => h) m_525 m_1026 m_523 m_524 m_8) rfl rfl rfl (by decide +kernel) ⟨Nat.le_of_ble_eq_true rfl, Nat.le_of_ble_eq_true rfl⟩) ⟨fun a U g mk q => by obtain ⟨q0, q1, qP, qK, qD, z0⟩ := q; exact ⟨q0, q1, qP, va_K.moved (u := U) (U := U.calling g mk a) (Vm.Alike.refl U.vm) qK, qD, EX.same (U := U) (U' := U.calling g mk a) rfl z0⟩, (hiL.frozen).recv hK hP (fun q hq => List.mem_append_right _ (List.mem_append_left _ hq)), fun U hU hW => ⟨rfl, by rw [hU], by rw [hU]; exact hPc, va_K.moved hW.alike hKc, hDc.weaken (fun _ _ _ _ => trivial), by rw [hU]; exact EX.warm hW ((hE.kept (fun a h1 h2 => hS.2.1 a h1 h2)).narrow hFc)⟩⟩ rfl rfl hl.1 rfl (lv_room (Nat.le_of_ble_eq_true rfl)) d_SE_choose_80 ⟨(by show ((acl (xs.length + x1.length) - acl xs.length) + (acl ((xs ++ x1).length + 1) - acl (xs ++ x1).length)) ≤ (acl (xs.length + (chs s0 x).length) - acl xs.length); omega), (by show ((asl (xs.length + x1.length) - asl xs.length) + (asl ((xs ++ x1).length + 1) - asl (xs ++ x1).length)) ≤ (asl (xs.length + (chs s0 x).length) - asl xs.length); omega)⟩) hS (fun q _ h => hFc q h) hFc (fun r31 u30 t H1 locs ht hvm hw32 hB hz1 hk1 hS => ?_)
          obtain ⟨hP1, hK1, hD1⟩ := hB
          rw [ht] at hP1
          have hK1 := va_K.moved hvm.symm hK1
          replace hw32 : ALc cO em pl ((xs ++ x1) ++ [(ks.getD i 0)]) u30 := hw32
          obtain ⟨hP, hD⟩ := zz_join (pre := []) (fz := (lz1 ++ fz)) (wc := []) (wr := []) (w1 := ([] ++ (u30 ++ fz))) hP hD [] [] rfl rfl (by decide) (by decide) hk1 hFc hP1 hD1
          have hK := (hK.sub (tys' := [(cB, .byte)]) [0] rfl).app hK1
          generalize H1 = H at hP hS ⊢
          replace hP : va_P (dC, dI) vwCl ([] ++ (u30 ++ fz)) H := hP
          replace hD : va_D A ([] ++ (u30 ++ fz)) := hD
          replace hK : va_K (dC, dI) vwCl [(cB, .byte), (cO, .object "java/lang/Object")] s := hK
          clear hPc hDc hFc hKc hP1 hD1 hK1 hk1 hz1 ht hvm
          have hal9 : ALc cO em pl (xs ++ (x1 ++ [(ks.getD i 0)])) u30 := by rw [← List.append_assoc]; exact hw32
          have hxl : (x1 ++ [(ks.getD i 0)]).length = x1.length + 1 := by simp
          have hax : acl (xs.length + (x1 ++ [(ks.getD i 0)]).length) = acl ((xs ++ x1).length + 1) := by rw [hxl, hlx]; rfl
          have hay : asl (xs.length + (x1 ++ [(ks.getD i 0)]).length) = asl ((xs ++ x1).length + 1) := by rw [hxl, hlx]; rfl
          refine lv_pop hx hb d_SE_choose_83 rfl ?_
          refine lv_iinc (k := 1) (v := ((nI i) + Int32.ofInt 1)) hx hb d_SE_choose_84 hl rfl rfl (by decide) rfl (fun ls hl => ?_)
          replace hl : lv_has ls 5 [(3, .int ((nI i) + Int32.ofInt 1)), (4, .ref (ks.getD i 0)), (2, .ref pl), (1, .ref a), (0, .ref o)] := hl
          rw [show nI i + Int32.ofInt 1 = nI (i + 1) from nI_1 _] at hl
          replace hl : lv_has ls 5 [(3, .int (nI (i + 1))), (4, .ref (ks.getD i 0)), (2, .ref pl), (1, .ref a), (0, .ref o)] := hl
          refine lv_goto (tgt := 34) hx hb d_SE_choose_87 rfl ?_
          refine W.widen (k := (acl (xs.length + (x1 ++ [(ks.getD i 0)]).length) - acl xs.length)) (n := (asl (xs.length + (x1 ++ [(ks.getD i 0)]).length) - asl xs.length)) (by omega) (by omega) ?_
          exact ih (ks.length - (i + 1)) (by omega) (i + 1) u30 (x1 ++ [(ks.getD i 0)]) H locs ls rfl (by omega) (hal9) (by rw [kidsL_take hik]; exact hi6.app (p := kidL x i) (by omega) (kid_le hv hik h32) hvt) (lv_sub hl [0, 2, 3, 4] rfl) (zz_pickP (pre := []) (fz := (u30 ++ fz)) (wc := []) hP [] rfl) (zz_pickD (pre := []) (fz := (u30 ++ fz)) (wc := []) hD [] (by decide) rfl) hS
    refine W.widen (k := (acl (xs.length + ([] : List Nat).length) - acl xs.length)) (n := (asl (xs.length + ([] : List Nat).length) - asl xs.length)) (by omega) (by omega) ?_
    exact hloop _ 0 lz ([] : List Nat) _ _ ls rfl (Nat.zero_le _) (by rw [List.append_nil]; exact hal) (VLS.nil) (lv_sub hl [0, 3, 2, 1] rfl) (zz_pickP (pre := []) (fz := (lz ++ fz)) (wc := []) hP [] rfl) (zz_pickD (pre := []) (fz := (lz ++ fz)) (wc := []) hD [] (by decide) rfl) hS
  · obtain ⟨nq, e0, hac⟩ := hsl
    have hac0 := hac
    obtain ⟨nA, hsc⟩ := hac0.nm rfl
    have hcs : chs s0 x = ((acR ((true, nq, 0) : Acx) x.2).map (kidL x)).toList := by rw [e0]; exact chs_nm
    refine lv_aload_n hx hb d_SE_choose_0 rfl (lv_at hl 0 rfl) ?_
    obtain ⟨qz21, hz21⟩ := List.getElem?_of_mem (List.mem_append_right [] (hgr _ hsc))
    refine va_get (D := (dC, dI)) (ci := 10) (v := .int 1) (C := R_SE) (T := T_SE) (N := 6) hx hb htb in_SE hown hK hP qz21 hz21 rfl 0 (by decide) (htb _ m_899) (fun _ h9 => h9) rfl d_SE_choose_1 ?_
    refine lv_iconst (v := 3) hx hb d_SE_choose_4 (by decide) ?_
    refine lv_icmp_ne (tgt := 17) hx hb d_SE_choose_5 rfl (fun _ => ?_) (fun h9 => absurd h9 (by decide))
    refine lv_aload_n hx hb d_SE_choose_17 rfl (lv_at hl 0 rfl) ?_
    obtain ⟨qz22, hz22⟩ := List.getElem?_of_mem (List.mem_append_right [] (hgr _ hsc))
    refine va_get (D := (dC, dI)) (ci := 10) (v := .int 1) (C := R_SE) (T := T_SE) (N := 6) hx hb htb in_SE hown hK hP qz22 hz22 rfl 0 (by decide) (htb _ m_899) (fun _ h9 => h9) rfl d_SE_choose_18 ?_
    refine lv_if_eq (tgt := 32) hx hb d_SE_choose_21 rfl (fun h9 => absurd h9 (by decide)) (fun _ => ?_)
    refine lv_aload_n hx hb d_SE_choose_24 rfl (lv_at hl 0 rfl) ?_
    obtain ⟨qz23, hz23⟩ := List.getElem?_of_mem (List.mem_append_right [] (hgr _ hsc))
    refine va_get (D := (dC, dI)) (ci := 10) (v := .int 1) (C := R_SE) (T := T_SE) (N := 6) hx hb htb in_SE hown hK hP qz23 hz23 rfl 0 (by decide) (htb _ m_899) (fun _ h9 => h9) rfl d_SE_choose_25 ?_
    refine lv_iconst (v := 4) hx hb d_SE_choose_28 (by decide) ?_
    refine lv_icmp_ne (tgt := 93) hx hb d_SE_choose_29 rfl (fun _ => ?_) (fun h9 => absurd h9 (by decide))
    refine lv_aload_n hx hb d_SE_choose_93 rfl (lv_at hl 0 rfl) ?_
    refine lv_aload_n hx hb d_SE_choose_94 rfl (lv_at hl 1 rfl) ?_
    have hPc := zz_pickP (pre := []) (fz := (lz ++ fz)) (wc := []) hP [] rfl
    have hDc := zz_pickD (pre := []) (fz := (lz ++ fz)) (wc := []) hD [] (by decide) rfl
    have hFc := zz_free (pre := []) (fz := (lz ++ fz)) (wc := []) hD hS hA [] rfl
    have hKc := hK.sub (tys' := [(cB, .byte), (cO, .object "java/lang/Object")]) [0, 1] rfl
    refine va_callq (va_runV (As := [.ref a]) (rest := []) ⟨hx, hb, hml, hown, htb⟩ (k_SE_oneIn l dC dI _ o ((true, nq, 0) : Acx) fz a d nn x.2 cB cO em aK aV (lz ++ fz) hac hv hgr) (cwV 1 htb (g_V (fun _ h => h) m_1037 m_1050 m_1035 m_1036 m_26) rfl rfl rfl (by decide +kernel) ⟨Nat.le_of_ble_eq_true rfl, Nat.le_of_ble_eq_true rfl⟩) ⟨fun a U g mk q => by obtain ⟨q0, q1, qP, qK, qD, z0⟩ := q; exact ⟨q0, q1, qP, va_K.moved (u := U) (U := U.calling g mk a) (Vm.Alike.refl U.vm) qK, qD, EX.same (U := U) (U' := U.calling g mk a) rfl z0⟩, zz_recv hK hP (ci := 10) rfl (List.mem_append_right _ (hgr _ hsc)), fun U hU hW => ⟨rfl, by rw [hU], by rw [hU]; exact hPc, va_K.moved hW.alike hKc, hDc.weaken (fun _ _ _ _ => trivial), by rw [hU]; exact EX.warm hW ((hE.kept (fun a h1 h2 => hS.2.1 a h1 h2)).narrow hFc)⟩⟩ rfl rfl hl.1 rfl (lv_room (Nat.le_of_ble_eq_true rfl)) d_SE_choose_95 ⟨(by show 0 ≤ (acl (xs.length + (chs s0 x).length) - acl xs.length); omega), (by show 0 ≤ (asl (xs.length + (chs s0 x).length) - asl xs.length); omega)⟩) hS (fun q _ h => hFc q h) hFc (fun r25 u24 t H1 locs ht hvm hw26 hB hz1 hk1 hS => ?_)
    obtain ⟨hP1, hK1, hD1⟩ := hB
    rw [ht] at hP1
    have hK1 := va_K.moved hvm.symm hK1
    replace hw26 : (r25 = none ∧ acR ((true, nq, 0) : Acx) x.2 = none) ∨ ∃ t8 y8 n8, r25 = some y8 ∧ acR ((true, nq, 0) : Acx) x.2 = some t8 ∧ t8 < (ksR x.2).length ∧ VT cB cO em aK d fz y8 n8 ((ksR x.2).getD t8 []) := hw26
    obtain ⟨hP, hD⟩ := zz_join (pre := []) (fz := (lz ++ fz)) (wc := []) (wr := []) (w1 := ([] ++ (lz ++ fz))) hP hD [] [] rfl rfl (by decide) (by decide) hk1 hFc hP1 hD1
    have hK := (hK.sub (tys' := []) [] rfl).app hK1
    generalize H1 = H at hP hS ⊢
    replace hP : va_P (dC, dI) vwCl ([] ++ (lz ++ fz)) H := hP
    replace hD : va_D A ([] ++ (lz ++ fz)) := hD
    replace hK : va_K (dC, dI) vwCl [(cB, .byte), (cO, .object "java/lang/Object")] s := hK
    clear hPc hDc hFc hKc hP1 hD1 hK1 hk1 hz1 ht hvm
    obtain ⟨rfl, hon⟩ | ⟨t8, y8, n8_, rfl, hon, hlt8, hvk⟩ := hw26
    · refine W.eq (g2 := F0 m 98 ls [.null]) rfl ?_
      have hcs0 : chs s0 x = [] := by rw [hcs, hon]; rfl
      refine lv_astore_nN hx hb d_SE_choose_98 rfl hl (by decide) rfl (fun ls hl => ?_)
      replace hl : lv_has ls 5 [(3, .null), (0, .ref o), (1, .ref a), (2, .ref pl)] := hl
      refine lv_aload_nN hx hb d_SE_choose_99 rfl (lv_at hl 0 rfl) ?_
      refine lv_ifnullN (tgt := 109) hx hb d_SE_choose_100 rfl ?_
      have hP9 := zz_pickP (pre := []) (fz := (lz ++ fz)) (wc := []) hP [] rfl
      have hD9 := zz_pickD (pre := []) (fz := (lz ++ fz)) (wc := []) hD [] (by decide) rfl
      have hK9 := hK.sub (tys' := [(cB, .byte), (cO, .object "java/lang/Object")]) [0, 1] rfl
      rw [hQ]
      refine W.widen (k := (acl (xs.length + (chs s0 x).length) - acl xs.length)) (n := (asl (xs.length + (chs s0 x).length) - asl xs.length)) ((by show 0 ≤ (acl (xs.length + (chs s0 x).length) - acl xs.length); omega)) ((by show 0 ≤ (asl (xs.length + (chs s0 x).length) - asl xs.length); omega)) ?_
      exact W.vret hx hb hr (fun t ht hW => ⟨⟨(lz, ([] : List Nat)), rfl, ⟨by rw [List.append_nil]; exact hal, by rw [hcs0]; exact VLS.nil⟩, ⟨by rw [ht]; exact hP9, va_K.moved hW.alike hK9, hD9⟩⟩, hS.F ht⟩) hS.2.2 d_SE_choose_109
    · refine W.eq (g2 := F0 m 98 ls [.ref y8]) rfl ?_
      have hcs1 : chs s0 x = [kidL x t8] := by rw [hcs, hon]; rfl
      have hcl1 : (chs s0 x).length = 1 := by rw [hcs1]; rfl
      have hcx : acl (xs.length + (chs s0 x).length) = acl (xs.length + 1) := by rw [hcl1]
      have hcy : asl (xs.length + (chs s0 x).length) = asl (xs.length + 1) := by rw [hcl1]
      refine lv_astore_n hx hb d_SE_choose_98 rfl hl (by decide) rfl (fun ls hl => ?_)
      replace hl : lv_has ls 5 [(3, .ref y8), (0, .ref o), (1, .ref a), (2, .ref pl)] := hl
      refine lv_aload_n hx hb d_SE_choose_99 rfl (lv_at hl 0 rfl) ?_
      refine lv_ifnull hx hb d_SE_choose_100 ?_
      refine lv_aload_n hx hb d_SE_choose_103 rfl (lv_at hl 3 rfl) ?_
      refine lv_aload_n hx hb d_SE_choose_104 rfl (lv_at hl 0 rfl) ?_
      have hPc := zz_pickP (pre := []) (fz := (lz ++ fz)) (wc := []) hP [] rfl
      have hDc := zz_pickD (pre := []) (fz := (lz ++ fz)) (wc := []) hD [] (by decide) rfl
      have hFc := zz_free (pre := []) (fz := (lz ++ fz)) (wc := []) hD hS hA [] rfl
      have hKc := hK.sub (tys' := [(cO, .object "java/lang/Object")]) [1] rfl
      refine va_calli (va_runV (As := [.ref y8]) (rest := []) ⟨hx, hb, hml, hown, htb⟩ (k_AL_add l dC dI _ pl xs cO 3 y8 em aK aV lz fz Oci3 hal hls.vin hvk.vin (by omega)) (cwV 1 htb (g_V (fun _ h => h) m_525 m_1026 m_523 m_524 m_8) rfl rfl rfl (by decide +kernel) ⟨Nat.le_of_ble_eq_true rfl, Nat.le_of_ble_eq_true rfl⟩) ⟨fun a U g mk q => by obtain ⟨q0, q1, qP, qK, qD, z0⟩ := q; exact ⟨q0, q1, qP, va_K.moved (u := U) (U := U.calling g mk a) (Vm.Alike.refl U.vm) qK, qD, EX.same (U := U) (U' := U.calling g mk a) rfl z0⟩, (hal.frozen).recv hK hP (fun q hq => List.mem_append_right _ (List.mem_append_left _ hq)), fun U hU hW => ⟨rfl, by rw [hU], by rw [hU]; exact hPc, va_K.moved hW.alike hKc, hDc.weaken (fun _ _ _ _ => trivial), by rw [hU]; exact EX.warm hW ((hE.kept (fun a h1 h2 => hS.2.1 a h1 h2)).narrow hFc)⟩⟩ rfl rfl hl.1 rfl (lv_room (Nat.le_of_ble_eq_true rfl)) d_SE_choose_105 ⟨(by show (0 + (acl (xs.length + 1) - acl xs.length)) ≤ (acl (xs.length + (chs s0 x).length) - acl xs.length); omega), (by show (0 + (asl (xs.length + 1) - asl xs.length)) ≤ (asl (xs.length + (chs s0 x).length) - asl xs.length); omega)⟩) hS (fun q _ h => hFc q h) hFc (fun r29 u28 t H1 locs ht hvm hw30 hB hz1 hk1 hS => ?_)
      obtain ⟨hP1, hK1, hD1⟩ := hB
      rw [ht] at hP1
      have hK1 := va_K.moved hvm.symm hK1
      replace hw30 : ALc cO em pl (xs ++ [y8]) u28 := hw30
      obtain ⟨hP, hD⟩ := zz_join (pre := []) (fz := (lz ++ fz)) (wc := []) (wr := []) (w1 := ([] ++ (u28 ++ fz))) hP hD [] [] rfl rfl (by decide) (by decide) hk1 hFc hP1 hD1
      have hK := (hK.sub (tys' := [(cB, .byte)]) [0] rfl).app hK1
      generalize H1 = H at hP hS ⊢
      replace hP : va_P (dC, dI) vwCl ([] ++ (u28 ++ fz)) H := hP
      replace hD : va_D A ([] ++ (u28 ++ fz)) := hD
      replace hK : va_K (dC, dI) vwCl [(cB, .byte), (cO, .object "java/lang/Object")] s := hK
      clear hPc hDc hFc hKc hP1 hD1 hK1 hk1 hz1 ht hvm
      refine lv_pop hx hb d_SE_choose_108 rfl ?_
      have hP9 := zz_pickP (pre := []) (fz := (u28 ++ fz)) (wc := []) hP [] rfl
      have hD9 := zz_pickD (pre := []) (fz := (u28 ++ fz)) (wc := []) hD [] (by decide) rfl
      have hK9 := hK.sub (tys' := [(cB, .byte), (cO, .object "java/lang/Object")]) [0, 1] rfl
      rw [hQ]
      refine W.widen (k := (acl (xs.length + (chs s0 x).length) - acl xs.length)) (n := (asl (xs.length + (chs s0 x).length) - asl xs.length)) ((by show (0 + (acl (xs.length + 1) - acl xs.length)) ≤ (acl (xs.length + (chs s0 x).length) - acl xs.length); omega)) ((by show (0 + (asl (xs.length + 1) - asl xs.length)) ≤ (asl (xs.length + (chs s0 x).length) - asl xs.length); omega)) ?_
      exact W.vret hx hb hr (fun t ht hW => ⟨⟨(u28, [y8]), rfl, ⟨hw30, by rw [hcs1]; exact VLS.nil.app (p := kidL x t8) (by omega) (kid_le hv hlt8 h32) hvk⟩, ⟨by rw [ht]; exact hP9, va_K.moved hW.alike hK9, hD9⟩⟩, hS.F ht⟩) hS.2.2 d_SE_choose_109
  · obtain ⟨v8, e0, hac⟩ := hsl
    have hsc := hac.ix rfl
    have hcs : chs s0 x = ((acR ((false, [], v8) : Acx) x.2).map (kidL x)).toList := by rw [e0]; exact chs_ix
    refine lv_aload_n hx hb d_SE_choose_0 rfl (lv_at hl 0 rfl) ?_
    obtain ⟨qz21, hz21⟩ := List.getElem?_of_mem (List.mem_append_right [] (hgr _ hsc))
    refine va_get (D := (dC, dI)) (ci := 10) (v := .int 2) (C := R_SE) (T := T_SE) (N := 6) hx hb htb in_SE hown hK hP qz21 hz21 rfl 0 (by decide) (htb _ m_899) (fun _ h9 => h9) rfl d_SE_choose_1 ?_
    refine lv_iconst (v := 3) hx hb d_SE_choose_4 (by decide) ?_
    refine lv_icmp_ne (tgt := 17) hx hb d_SE_choose_5 rfl (fun _ => ?_) (fun h9 => absurd h9 (by decide))
    refine lv_aload_n hx hb d_SE_choose_17 rfl (lv_at hl 0 rfl) ?_
    obtain ⟨qz22, hz22⟩ := List.getElem?_of_mem (List.mem_append_right [] (hgr _ hsc))
    refine va_get (D := (dC, dI)) (ci := 10) (v := .int 2) (C := R_SE) (T := T_SE) (N := 6) hx hb htb in_SE hown hK hP qz22 hz22 rfl 0 (by decide) (htb _ m_899) (fun _ h9 => h9) rfl d_SE_choose_18 ?_
    refine lv_if_eq (tgt := 32) hx hb d_SE_choose_21 rfl (fun h9 => absurd h9 (by decide)) (fun _ => ?_)
    refine lv_aload_n hx hb d_SE_choose_24 rfl (lv_at hl 0 rfl) ?_
    obtain ⟨qz23, hz23⟩ := List.getElem?_of_mem (List.mem_append_right [] (hgr _ hsc))
    refine va_get (D := (dC, dI)) (ci := 10) (v := .int 2) (C := R_SE) (T := T_SE) (N := 6) hx hb htb in_SE hown hK hP qz23 hz23 rfl 0 (by decide) (htb _ m_899) (fun _ h9 => h9) rfl d_SE_choose_25 ?_
    refine lv_iconst (v := 4) hx hb d_SE_choose_28 (by decide) ?_
    refine lv_icmp_ne (tgt := 93) hx hb d_SE_choose_29 rfl (fun _ => ?_) (fun h9 => absurd h9 (by decide))
    refine lv_aload_n hx hb d_SE_choose_93 rfl (lv_at hl 0 rfl) ?_
    refine lv_aload_n hx hb d_SE_choose_94 rfl (lv_at hl 1 rfl) ?_
    have hPc := zz_pickP (pre := []) (fz := (lz ++ fz)) (wc := []) hP [] rfl
    have hDc := zz_pickD (pre := []) (fz := (lz ++ fz)) (wc := []) hD [] (by decide) rfl
    have hFc := zz_free (pre := []) (fz := (lz ++ fz)) (wc := []) hD hS hA [] rfl
    have hKc := hK.sub (tys' := [(cB, .byte), (cO, .object "java/lang/Object")]) [0, 1] rfl
    refine va_callq (va_runV (As := [.ref a]) (rest := []) ⟨hx, hb, hml, hown, htb⟩ (k_SE_oneIn l dC dI _ o ((false, [], v8) : Acx) fz a d nn x.2 cB cO em aK aV (lz ++ fz) hac hv hgr) (cwV 1 htb (g_V (fun _ h => h) m_1037 m_1050 m_1035 m_1036 m_26) rfl rfl rfl (by decide +kernel) ⟨Nat.le_of_ble_eq_true rfl, Nat.le_of_ble_eq_true rfl⟩) ⟨fun a U g mk q => by obtain ⟨q0, q1, qP, qK, qD, z0⟩ := q; exact ⟨q0, q1, qP, va_K.moved (u := U) (U := U.calling g mk a) (Vm.Alike.refl U.vm) qK, qD, EX.same (U := U) (U' := U.calling g mk a) rfl z0⟩, zz_recv hK hP (ci := 10) rfl (List.mem_append_right _ (hgr _ hsc)), fun U hU hW => ⟨rfl, by rw [hU], by rw [hU]; exact hPc, va_K.moved hW.alike hKc, hDc.weaken (fun _ _ _ _ => trivial), by rw [hU]; exact EX.warm hW ((hE.kept (fun a h1 h2 => hS.2.1 a h1 h2)).narrow hFc)⟩⟩ rfl rfl hl.1 rfl (lv_room (Nat.le_of_ble_eq_true rfl)) d_SE_choose_95 ⟨(by show 0 ≤ (acl (xs.length + (chs s0 x).length) - acl xs.length); omega), (by show 0 ≤ (asl (xs.length + (chs s0 x).length) - asl xs.length); omega)⟩) hS (fun q _ h => hFc q h) hFc (fun r25 u24 t H1 locs ht hvm hw26 hB hz1 hk1 hS => ?_)
    obtain ⟨hP1, hK1, hD1⟩ := hB
    rw [ht] at hP1
    have hK1 := va_K.moved hvm.symm hK1
    replace hw26 : (r25 = none ∧ acR ((false, [], v8) : Acx) x.2 = none) ∨ ∃ t8 y8 n8, r25 = some y8 ∧ acR ((false, [], v8) : Acx) x.2 = some t8 ∧ t8 < (ksR x.2).length ∧ VT cB cO em aK d fz y8 n8 ((ksR x.2).getD t8 []) := hw26
    obtain ⟨hP, hD⟩ := zz_join (pre := []) (fz := (lz ++ fz)) (wc := []) (wr := []) (w1 := ([] ++ (lz ++ fz))) hP hD [] [] rfl rfl (by decide) (by decide) hk1 hFc hP1 hD1
    have hK := (hK.sub (tys' := []) [] rfl).app hK1
    generalize H1 = H at hP hS ⊢
    replace hP : va_P (dC, dI) vwCl ([] ++ (lz ++ fz)) H := hP
    replace hD : va_D A ([] ++ (lz ++ fz)) := hD
    replace hK : va_K (dC, dI) vwCl [(cB, .byte), (cO, .object "java/lang/Object")] s := hK
    clear hPc hDc hFc hKc hP1 hD1 hK1 hk1 hz1 ht hvm
    obtain ⟨rfl, hon⟩ | ⟨t8, y8, n8_, rfl, hon, hlt8, hvk⟩ := hw26
    · refine W.eq (g2 := F0 m 98 ls [.null]) rfl ?_
      have hcs0 : chs s0 x = [] := by rw [hcs, hon]; rfl
      refine lv_astore_nN hx hb d_SE_choose_98 rfl hl (by decide) rfl (fun ls hl => ?_)
      replace hl : lv_has ls 5 [(3, .null), (0, .ref o), (1, .ref a), (2, .ref pl)] := hl
      refine lv_aload_nN hx hb d_SE_choose_99 rfl (lv_at hl 0 rfl) ?_
      refine lv_ifnullN (tgt := 109) hx hb d_SE_choose_100 rfl ?_
      have hP9 := zz_pickP (pre := []) (fz := (lz ++ fz)) (wc := []) hP [] rfl
      have hD9 := zz_pickD (pre := []) (fz := (lz ++ fz)) (wc := []) hD [] (by decide) rfl
      have hK9 := hK.sub (tys' := [(cB, .byte), (cO, .object "java/lang/Object")]) [0, 1] rfl
      rw [hQ]
      refine W.widen (k := (acl (xs.length + (chs s0 x).length) - acl xs.length)) (n := (asl (xs.length + (chs s0 x).length) - asl xs.length)) ((by show 0 ≤ (acl (xs.length + (chs s0 x).length) - acl xs.length); omega)) ((by show 0 ≤ (asl (xs.length + (chs s0 x).length) - asl xs.length); omega)) ?_
      exact W.vret hx hb hr (fun t ht hW => ⟨⟨(lz, ([] : List Nat)), rfl, ⟨by rw [List.append_nil]; exact hal, by rw [hcs0]; exact VLS.nil⟩, ⟨by rw [ht]; exact hP9, va_K.moved hW.alike hK9, hD9⟩⟩, hS.F ht⟩) hS.2.2 d_SE_choose_109
    · refine W.eq (g2 := F0 m 98 ls [.ref y8]) rfl ?_
      have hcs1 : chs s0 x = [kidL x t8] := by rw [hcs, hon]; rfl
      have hcl1 : (chs s0 x).length = 1 := by rw [hcs1]; rfl
      have hcx : acl (xs.length + (chs s0 x).length) = acl (xs.length + 1) := by rw [hcl1]
      have hcy : asl (xs.length + (chs s0 x).length) = asl (xs.length + 1) := by rw [hcl1]
      refine lv_astore_n hx hb d_SE_choose_98 rfl hl (by decide) rfl (fun ls hl => ?_)
      replace hl : lv_has ls 5 [(3, .ref y8), (0, .ref o), (1, .ref a), (2, .ref pl)] := hl
      refine lv_aload_n hx hb d_SE_choose_99 rfl (lv_at hl 0 rfl) ?_
      refine lv_ifnull hx hb d_SE_choose_100 ?_
      refine lv_aload_n hx hb d_SE_choose_103 rfl (lv_at hl 3 rfl) ?_
      refine lv_aload_n hx hb d_SE_choose_104 rfl (lv_at hl 0 rfl) ?_
      have hPc := zz_pickP (pre := []) (fz := (lz ++ fz)) (wc := []) hP [] rfl
      have hDc := zz_pickD (pre := []) (fz := (lz ++ fz)) (wc := []) hD [] (by decide) rfl
      have hFc := zz_free (pre := []) (fz := (lz ++ fz)) (wc := []) hD hS hA [] rfl
      have hKc := hK.sub (tys' := [(cO, .object "java/lang/Object")]) [1] rfl
      refine va_calli (va_runV (As := [.ref y8]) (rest := []) ⟨hx, hb, hml, hown, htb⟩ (k_AL_add l dC dI _ pl xs cO 3 y8 em aK aV lz fz Oci3 hal hls.vin hvk.vin (by omega)) (cwV 1 htb (g_V (fun _ h => h) m_525 m_1026 m_523 m_524 m_8) rfl rfl rfl (by decide +kernel) ⟨Nat.le_of_ble_eq_true rfl, Nat.le_of_ble_eq_true rfl⟩) ⟨fun a U g mk q => by obtain ⟨q0, q1, qP, qK, qD, z0⟩ := q; exact ⟨q0, q1, qP, va_K.moved (u := U) (U := U.calling g mk a) (Vm.Alike.refl U.vm) qK, qD, EX.same (U := U) (U' := U.calling g mk a) rfl z0⟩, (hal.frozen).recv hK hP (fun q hq => List.mem_append_right _ (List.mem_append_left _ hq)), fun U hU hW => ⟨rfl, by rw [hU], by rw [hU]; exact hPc, va_K.moved hW.alike hKc, hDc.weaken (fun _ _ _ _ => trivial), by rw [hU]; exact EX.warm hW ((hE.kept (fun a h1 h2 => hS.2.1 a h1 h2)).narrow hFc)⟩⟩ rfl rfl hl.1 rfl (lv_room (Nat.le_of_ble_eq_true rfl)) d_SE_choose_105 ⟨(by show (0 + (acl (xs.length + 1) - acl xs.length)) ≤ (acl (xs.length + (chs s0 x).length) - acl xs.length); omega), (by show (0 + (asl (xs.length + 1) - asl xs.length)) ≤ (asl (xs.length + (chs s0 x).length) - asl xs.length); omega)⟩) hS (fun q _ h => hFc q h) hFc (fun r29 u28 t H1 locs ht hvm hw30 hB hz1 hk1 hS => ?_)
      obtain ⟨hP1, hK1, hD1⟩ := hB
      rw [ht] at hP1
      have hK1 := va_K.moved hvm.symm hK1
      replace hw30 : ALc cO em pl (xs ++ [y8]) u28 := hw30
      obtain ⟨hP, hD⟩ := zz_join (pre := []) (fz := (lz ++ fz)) (wc := []) (wr := []) (w1 := ([] ++ (u28 ++ fz))) hP hD [] [] rfl rfl (by decide) (by decide) hk1 hFc hP1 hD1
      have hK := (hK.sub (tys' := [(cB, .byte)]) [0] rfl).app hK1
      generalize H1 = H at hP hS ⊢
      replace hP : va_P (dC, dI) vwCl ([] ++ (u28 ++ fz)) H := hP
      replace hD : va_D A ([] ++ (u28 ++ fz)) := hD
      replace hK : va_K (dC, dI) vwCl [(cB, .byte), (cO, .object "java/lang/Object")] s := hK
      clear hPc hDc hFc hKc hP1 hD1 hK1 hk1 hz1 ht hvm
      refine lv_pop hx hb d_SE_choose_108 rfl ?_
      have hP9 := zz_pickP (pre := []) (fz := (u28 ++ fz)) (wc := []) hP [] rfl
      have hD9 := zz_pickD (pre := []) (fz := (u28 ++ fz)) (wc := []) hD [] (by decide) rfl
      have hK9 := hK.sub (tys' := [(cB, .byte), (cO, .object "java/lang/Object")]) [0, 1] rfl
      rw [hQ]
      refine W.widen (k := (acl (xs.length + (chs s0 x).length) - acl xs.length)) (n := (asl (xs.length + (chs s0 x).length) - asl xs.length)) ((by show (0 + (acl (xs.length + 1) - acl xs.length)) ≤ (acl (xs.length + (chs s0 x).length) - acl xs.length); omega)) ((by show (0 + (asl (xs.length + 1) - asl xs.length)) ≤ (asl (xs.length + (chs s0 x).length) - asl xs.length); omega)) ?_
      exact W.vret hx hb hr (fun t ht hW => ⟨⟨(u28, [y8]), rfl, ⟨hw30, by rw [hcs1]; exact VLS.nil.app (p := kidL x t8) (by omega) (kid_le hv hlt8 h32) hvk⟩, ⟨by rw [ht]; exact hP9, va_K.moved hW.alike hK9, hD9⟩⟩, hS.F ht⟩) hS.2.2 d_SE_choose_109
  · obtain ⟨o1, o2, o3, e0, hsc, hr1, hr2, hr3⟩ := hsl
    have hcs : chs s0 x = (if hdK x.2 = 5 then (slc (ksR x.2).length o1 o2 o3).map (kidL x) else []) := by rw [e0]; exact chs_sl
    refine lv_aload_n hx hb d_SE_choose_0 rfl (lv_at hl 0 rfl) ?_
    obtain ⟨qz21, hz21⟩ := List.getElem?_of_mem (List.mem_append_right [] (hgr _ hsc))
    refine va_get (D := (dC, dI)) (ci := 10) (v := .int 3) (C := R_SE) (T := T_SE) (N := 6) hx hb htb in_SE hown hK hP qz21 hz21 rfl 0 (by decide) (htb _ m_899) (fun _ h9 => h9) rfl d_SE_choose_1 ?_
    refine lv_iconst (v := 3) hx hb d_SE_choose_4 (by decide) ?_
    refine lv_icmp_ne (tgt := 17) hx hb d_SE_choose_5 rfl (fun h9 => absurd (rfl) h9) (fun _ => ?_)
    refine lv_aload_n hx hb d_SE_choose_8 rfl (lv_at hl 0 rfl) ?_
    refine lv_aload_n hx hb d_SE_choose_9 rfl (lv_at hl 1 rfl) ?_
    refine lv_aload_n hx hb d_SE_choose_10 rfl (lv_at hl 2 rfl) ?_
    have hcl2 : (if hdK x.2 = 5 then (slc (ksR x.2).length o1 o2 o3).map (kidL x) else []).length = (chs s0 x).length := by rw [hcs]
    have hcx : acl (xs.length + (if hdK x.2 = 5 then (slc (ksR x.2).length o1 o2 o3).map (kidL x) else []).length) = acl (xs.length + (chs s0 x).length) := by rw [hcs]
    have hcy : asl (xs.length + (if hdK x.2 = 5 then (slc (ksR x.2).length o1 o2 o3).map (kidL x) else []).length) = asl (xs.length + (chs s0 x).length) := by rw [hcs]
    have hPc := zz_pickP (pre := []) (fz := (lz ++ fz)) (wc := []) hP [] rfl
    have hDc := zz_pickD (pre := []) (fz := (lz ++ fz)) (wc := []) hD [] (by decide) rfl
    have hFc := zz_free (pre := []) (fz := (lz ++ fz)) (wc := []) hD hS hA [] rfl
    have hKc := hK.sub (tys' := [(cB, .byte), (cO, .object "java/lang/Object")]) [0, 1] rfl
    refine va_callv (va_runV (As := [.ref a, .ref pl]) (rest := []) ⟨hx, hb, hml, hown, htb⟩ (k_SE_chooseSlice l dC dI _ o o1 o2 o3 a d nn x pl xs LS cB cO em aK aV lz fz hsc hr1 hr2 hr3 hv hd9 h32 hal hls hx40) (cwV 2 htb (g_V (fun _ h => h) m_1017 m_1014 m_1016 m_1644 m_26) rfl rfl rfl (by decide +kernel) ⟨Nat.le_of_ble_eq_true rfl, Nat.le_of_ble_eq_true rfl⟩) ⟨fun a U g mk q => by obtain ⟨q0, q1, qP, qK, qD, z0⟩ := q; exact ⟨q0, q1, qP, va_K.moved (u := U) (U := U.calling g mk a) (Vm.Alike.refl U.vm) qK, qD, EX.same (U := U) (U' := U.calling g mk a) rfl z0⟩, zz_recv hK hP (ci := 10) rfl (List.mem_append_right _ (hgr _ hsc)), fun U hU hW => ⟨rfl, by rw [hU], by rw [hU]; exact hPc, va_K.moved hW.alike hKc, hDc.weaken (fun _ _ _ _ => trivial), by rw [hU]; exact EX.warm hW ((hE.kept (fun a h1 h2 => hS.2.1 a h1 h2)).narrow hFc)⟩⟩ rfl rfl hl.1 rfl (lv_room (Nat.le_of_ble_eq_true rfl)) d_SE_choose_11 ⟨(by show (0 + (acl (xs.length + (if hdK x.2 = 5 then (slc (ksR x.2).length o1 o2 o3).map (kidL x) else []).length) - acl xs.length)) ≤ (acl (xs.length + (chs s0 x).length) - acl xs.length); omega), (by show (0 + (asl (xs.length + (if hdK x.2 = 5 then (slc (ksR x.2).length o1 o2 o3).map (kidL x) else []).length) - asl xs.length)) ≤ (asl (xs.length + (chs s0 x).length) - asl xs.length); omega)⟩) hS (fun q _ h => hFc q h) hFc (fun u22 t H1 locs ht hvm hw24 hB hz1 hk1 hS => ?_)
    obtain ⟨hP1, hK1, hD1⟩ := hB
    rw [ht] at hP1
    have hK1 := va_K.moved hvm.symm hK1
    obtain ⟨w26, w27⟩ := u22
    replace hw24 : ALc cO em pl (xs ++ w27) w26 ∧ VLS cB cO em aK fz w27 (if hdK x.2 = 5 then (slc (ksR x.2).length o1 o2 o3).map (kidL x) else []) := hw24
    obtain ⟨hP, hD⟩ := zz_join (pre := []) (fz := (lz ++ fz)) (wc := []) (wr := []) (w1 := ([] ++ (w26 ++ fz))) hP hD [] [] rfl rfl (by decide) (by decide) hk1 hFc hP1 hD1
    have hK := (hK.sub (tys' := []) [] rfl).app hK1
    generalize H1 = H at hP hS ⊢
    replace hP : va_P (dC, dI) vwCl ([] ++ (w26 ++ fz)) H := hP
    replace hD : va_D A ([] ++ (w26 ++ fz)) := hD
    replace hK : va_K (dC, dI) vwCl [(cB, .byte), (cO, .object "java/lang/Object")] s := hK
    clear hPc hDc hFc hKc hP1 hD1 hK1 hk1 hz1 ht hvm
    refine lv_goto (tgt := 109) hx hb d_SE_choose_14 rfl ?_
    have hP9 := zz_pickP (pre := []) (fz := (w26 ++ fz)) (wc := []) hP [] rfl
    have hD9 := zz_pickD (pre := []) (fz := (w26 ++ fz)) (wc := []) hD [] (by decide) rfl
    have hK9 := hK.sub (tys' := [(cB, .byte), (cO, .object "java/lang/Object")]) [0, 1] rfl
    rw [hQ]
    refine W.widen (k := (acl (xs.length + (chs s0 x).length) - acl xs.length)) (n := (asl (xs.length + (chs s0 x).length) - asl xs.length)) ((by show (0 + (acl (xs.length + (if hdK x.2 = 5 then (slc (ksR x.2).length o1 o2 o3).map (kidL x) else []).length) - acl xs.length)) ≤ (acl (xs.length + (chs s0 x).length) - acl xs.length); omega)) ((by show (0 + (asl (xs.length + (if hdK x.2 = 5 then (slc (ksR x.2).length o1 o2 o3).map (kidL x) else []).length) - asl xs.length)) ≤ (asl (xs.length + (chs s0 x).length) - asl xs.length); omega)) ?_
    exact W.vret hx hb hr (fun t ht hW => ⟨⟨(w26, w27), rfl, by rw [hcs]; exact hw24, ⟨by rw [ht]; exact hP9, va_K.moved hW.alike hK9, hD9⟩⟩, hS.F ht⟩) hS.2.2 d_SE_choose_109
  · obtain ⟨t0, te, e0, hsc, htz⟩ := hsl
    have hcs : chs s0 x = (kidsL x).filter (hld t0) := by rw [e0]; exact chs_ts
    refine lv_aload_n hx hb d_SE_choose_0 rfl (lv_at hl 0 rfl) ?_
    obtain ⟨qz21, hz21⟩ := List.getElem?_of_mem (List.mem_append_right [] (hgr _ hsc))
    refine va_get (D := (dC, dI)) (ci := 10) (v := .int 4) (C := R_SE) (T := T_SE) (N := 6) hx hb htb in_SE hown hK hP qz21 hz21 rfl 0 (by decide) (htb _ m_899) (fun _ h9 => h9) rfl d_SE_choose_1 ?_
    refine lv_iconst (v := 3) hx hb d_SE_choose_4 (by decide) ?_
    refine lv_icmp_ne (tgt := 17) hx hb d_SE_choose_5 rfl (fun _ => ?_) (fun h9 => absurd h9 (by decide))
    refine lv_aload_n hx hb d_SE_choose_17 rfl (lv_at hl 0 rfl) ?_
    obtain ⟨qz22, hz22⟩ := List.getElem?_of_mem (List.mem_append_right [] (hgr _ hsc))
    refine va_get (D := (dC, dI)) (ci := 10) (v := .int 4) (C := R_SE) (T := T_SE) (N := 6) hx hb htb in_SE hown hK hP qz22 hz22 rfl 0 (by decide) (htb _ m_899) (fun _ h9 => h9) rfl d_SE_choose_18 ?_
    refine lv_if_eq (tgt := 32) hx hb d_SE_choose_21 rfl (fun h9 => absurd h9 (by decide)) (fun _ => ?_)
    refine lv_aload_n hx hb d_SE_choose_24 rfl (lv_at hl 0 rfl) ?_
    obtain ⟨qz23, hz23⟩ := List.getElem?_of_mem (List.mem_append_right [] (hgr _ hsc))
    refine va_get (D := (dC, dI)) (ci := 10) (v := .int 4) (C := R_SE) (T := T_SE) (N := 6) hx hb htb in_SE hown hK hP qz23 hz23 rfl 0 (by decide) (htb _ m_899) (fun _ h9 => h9) rfl d_SE_choose_25 ?_
    refine lv_iconst (v := 4) hx hb d_SE_choose_28 (by decide) ?_
    refine lv_icmp_ne (tgt := 93) hx hb d_SE_choose_29 rfl (fun h9 => absurd (rfl) h9) (fun _ => ?_)
    obtain ⟨kd, tx, nu, nm, pa, dp, cn, tt, kk, num, rt, ks, ns, hc, htx, hnm, hkl, hhd, hnl, hrl, hkf, hvl, hhk, hns, hdp, hcn, hrw, h160⟩ := (id hv : VT cB cO em aK (d + 1) fz a nn x.2).opn
    refine lv_iconst (v := 0) hx hb d_SE_choose_32 (by decide) ?_
    refine lv_istore_n hx hb d_SE_choose_33 rfl hl (by decide) rfl (fun ls hl => ?_)
    replace hl : lv_has ls 5 [(3, .int 0), (0, .ref o), (1, .ref a), (2, .ref pl)] := hl
    replace hl : lv_has ls 5 [(3, .int (nI 0)), (0, .ref o), (1, .ref a), (2, .ref pl)] := hl
    have hloop : ∀ (k9 : Nat) (i : Nat) (lz1 : va_W) (x1 : List Nat) (H : Heap) (locs : List Loc) (ls : Array Slot), ks.length - i = k9 → (i ≤ ks.length) → (ALc cO em pl (xs ++ x1) lz1) → (VLS cB cO em aK fz x1 (((kidsL x).take i).filter (hld t0))) → lv_has ls 5 [(3, .int (nI i)), (2, .ref pl), (1, .ref a), (0, .ref o)] → va_P (dC, dI) vwCl ([] ++ (lz1 ++ fz)) H → va_D A ([] ++ (lz1 ++ fz)) → va_S A s.heap H locs → W p l e (headSpec ws_SE_choose ({ frames := 85, cells := (acl (xs.length + (chs s0 x).length) - acl xs.length), slots := (asl (xs.length + (chs s0 x).length) - asl xs.length), locals := 2500 })).room s m args below meth c H locs (acl (xs.length + x1.length) - acl xs.length) (asl (xs.length + x1.length) - asl xs.length) Q (F0 m 34 ls []) := by
      intro k9
      induction k9 using Nat.strongRecOn with
      | ind k9 ih =>
        intro i lz1 x1 H locs ls hk9 hi0 hiL hi6 hl hP hD hS
        have hdl : (((kidsL x).take i).filter (hld t0)).length ≤ (chs s0 x).length := by rw [hcs]; exact ((List.take_sublist _ _).filter _).length_le
        have hx1 := hi6.1
        have hup := ac_up (xs.length + x1.length) (xs.length + (chs s0 x).length) (by omega) (by omega)
        have hgr1 : ∀ q ∈ fz, q ∈ (lz1 ++ fz) := fun q hq => List.mem_append_right _ hq
        have hkl9 := hkl.mono hgr1
        refine lv_iload_n hx hb d_SE_choose_34 rfl (lv_at hl 0 rfl) ?_
        refine lv_aload_n hx hb d_SE_choose_35 rfl (lv_at hl 2 rfl) ?_
        obtain ⟨qz24, hz24⟩ := List.getElem?_of_mem (List.mem_append_right [] (hgr1 _ hc))
        refine va_get (D := (dC, dI)) (ci := 3) (v := .ref pa) (C := R_VA) (T := T_VA) (N := 7) hx hb htb in_VA hown hK hP qz24 hz24 rfl 4 (by decide) (htb _ m_398) (fun _ h9 => h9) rfl d_SE_choose_36 ?_
        have hPc : va_P (dC, dI) vwCl ([] ++ (lz1 ++ fz)) _ := zz_tlP (pre := []) (tl := (lz1 ++ fz)) hP
        have hKc := hK.sub (tys' := []) [] rfl
        refine vp_callSi (W.runV (As := []) (rest := [.int (nI i)]) ⟨hx, hb, hml, hown, htb⟩ (z_AL_size l dC dI pa ks cO em (lz1 ++ fz) hkl9) (cwV 0 htb (g_V (fun _ h => h) m_486 m_1018 m_484 m_485 m_8) rfl rfl rfl (by decide +kernel) ⟨Nat.le_of_ble_eq_true rfl, Nat.le_of_ble_eq_true rfl⟩) ⟨fun a U g mk q => by obtain ⟨q0, qP, qK⟩ := q; exact ⟨q0, qP, va_K.moved (u := U) (U := U.calling g mk a) (Vm.Alike.refl U.vm) qK⟩, (hkl9).recv hK hP (fun q hq => List.mem_append_right _ hq), fun U hU hW => ⟨rfl, by rw [hU]; exact hPc, va_K.moved hW.alike hKc⟩⟩ rfl rfl hl.1 rfl (lv_room (Nat.le_of_ble_eq_true rfl)) d_SE_choose_39 ⟨(by show (acl (xs.length + x1.length) - acl xs.length) ≤ (acl (xs.length + (chs s0 x).length) - acl xs.length); omega), (by show (asl (xs.length + x1.length) - asl xs.length) ≤ (asl (xs.length + (chs s0 x).length) - asl xs.length); omega)⟩) (fun r25 hw26 => ?_)
        replace hw26 : r25 = nI ks.length := hw26
        clear hPc hKc
        obtain rfl := hw26
        refine lv_icmp_ge (tgt := 90) hx hb d_SE_choose_42 rfl (fun h1 => ?_) (fun h1 => ?_)
        · have h1 : ks.length ≤ i := (nI_leI (by omega) (by omega)).mp h1
          rw [List.take_of_length_le (by rw [kidsL_len]; omega)] at hi6
          refine lv_goto (tgt := 109) hx hb d_SE_choose_90 rfl ?_
          have hP9 := zz_pickP (pre := []) (fz := (lz1 ++ fz)) (wc := []) hP [] rfl
          have hD9 := zz_pickD (pre := []) (fz := (lz1 ++ fz)) (wc := []) hD [] (by decide) rfl
          have hK9 := hK.sub (tys' := [(cB, .byte), (cO, .object "java/lang/Object")]) [0, 1] rfl
          rw [hQ]
          refine W.widen (k := (acl (xs.length + (chs s0 x).length) - acl xs.length)) (n := (asl (xs.length + (chs s0 x).length) - asl xs.length)) ((by show (acl (xs.length + x1.length) - acl xs.length) ≤ (acl (xs.length + (chs s0 x).length) - acl xs.length); omega)) ((by show (asl (xs.length + x1.length) - asl xs.length) ≤ (asl (xs.length + (chs s0 x).length) - asl xs.length); omega)) ?_
          exact W.vret hx hb hr (fun t ht hW => ⟨⟨(lz1, x1), rfl, ⟨hiL, by rw [hcs]; exact hi6⟩, ⟨by rw [ht]; exact hP9, va_K.moved hW.alike hK9, hD9⟩⟩, hS.F ht⟩) hS.2.2 d_SE_choose_109
        · have h1 : i < ks.length := Nat.not_le.mp (fun h => h1 ((nI_leI (by omega) (by omega)).mpr h))
          have hik : i < (ksR x.2).length := by omega
          have hvt := hvl i h1
          obtain ⟨kd0, tx0, nu0, nm0, pa0, dp0, cn0, hc0, hn0⟩ := hvt.cellN
          refine lv_aload_n hx hb d_SE_choose_45 rfl (lv_at hl 2 rfl) ?_
          obtain ⟨qz27, hz27⟩ := List.getElem?_of_mem (List.mem_append_right [] (hgr1 _ hc))
          refine va_get (D := (dC, dI)) (ci := 3) (v := .ref pa) (C := R_VA) (T := T_VA) (N := 7) hx hb htb in_VA hown hK hP qz27 hz27 rfl 4 (by decide) (htb _ m_398) (fun _ h9 => h9) rfl d_SE_choose_46 ?_
          refine lv_iload_n hx hb d_SE_choose_49 rfl (lv_at hl 0 rfl) ?_
          have hPc : va_P (dC, dI) vwCl ([] ++ (lz1 ++ fz)) _ := zz_tlP (pre := []) (tl := (lz1 ++ fz)) hP
          have hKc := hK.sub (tys' := [(cO, .object "java/lang/Object")]) [1] rfl
          refine va_csq (W.runV (As := [.int (nI i)]) (rest := []) ⟨hx, hb, hml, hown, htb⟩ (z_AL_get l dC dI pa ks cO em i (lz1 ++ fz) hkl9 h1) (cwV 1 htb (g_V (fun _ h => h) m_490 m_1024 m_488 m_489 m_8) rfl rfl rfl (by decide +kernel) ⟨Nat.le_of_ble_eq_true rfl, Nat.le_of_ble_eq_true rfl⟩) ⟨fun a U g mk q => by obtain ⟨q0, qP, qK⟩ := q; exact ⟨q0, qP, va_K.moved (u := U) (U := U.calling g mk a) (Vm.Alike.refl U.vm) qK⟩, (hkl9).recv hK hP (fun q hq => List.mem_append_right _ hq), fun U hU hW => ⟨rfl, by rw [hU]; exact hPc, va_K.moved hW.alike hKc⟩⟩ rfl rfl hl.1 rfl (lv_room (Nat.le_of_ble_eq_true rfl)) d_SE_choose_50 ⟨(by show (acl (xs.length + x1.length) - acl xs.length) ≤ (acl (xs.length + (chs s0 x).length) - acl xs.length); omega), (by show (asl (xs.length + x1.length) - asl xs.length) ≤ (asl (xs.length + (chs s0 x).length) - asl xs.length); omega)⟩) (fun r28 hw29 => ?_)
          replace hw29 : r28 = some (ks.getD i 0) := hw29
          clear hPc hKc
          obtain rfl := hw29
          refine W.eq (g2 := F0 m 53 ls [.ref (ks.getD i 0)]) rfl ?_
          refine va_castY (C := "PatchStore$Value") hx hb hown (htb _ m_1025) (nw_14 hE) (zz_recv hK hP (ci := 3) rfl (List.mem_append_right _ (hgr1 _ hc0))) d_SE_choose_53 ?_
          refine lv_astore hx hb d_SE_choose_56 hl (by decide) rfl (fun ls hl => ?_)
          replace hl : lv_has ls 5 [(4, .ref (ks.getD i 0)), (3, .int (nI i)), (2, .ref pl), (1, .ref a), (0, .ref o)] := hl
          refine lv_aload_n hx hb d_SE_choose_58 rfl (lv_at hl 4 rfl) ?_
          obtain ⟨qz30, hz30⟩ := List.getElem?_of_mem (List.mem_append_right [] (hgr1 _ hsc))
          refine va_get (D := (dC, dI)) (ci := 10) (v := .ref te) (C := R_SE) (T := T_SE) (N := 6) hx hb htb in_SE hown hK hP qz30 hz30 rfl 5 (by decide) (htb _ m_904) (fun _ h9 => h9) rfl d_SE_choose_59 ?_
          refine lv_ifnull hx hb d_SE_choose_62 ?_
          refine lv_aload_n hx hb d_SE_choose_65 rfl (lv_at hl 4 rfl) ?_
          obtain ⟨qz31, hz31⟩ := List.getElem?_of_mem (List.mem_append_right [] (hgr1 _ hsc))
          refine va_get (D := (dC, dI)) (ci := 10) (v := .ref te) (C := R_SE) (T := T_SE) (N := 6) hx hb htb in_SE hown hK hP qz31 hz31 rfl 5 (by decide) (htb _ m_904) (fun _ h9 => h9) rfl d_SE_choose_66 ?_
          refine lv_aload hx hb d_SE_choose_69 (lv_at hl 0 rfl) ?_
          obtain ⟨d1, hd1⟩ := hvt.succ
          have hvt8 : VT cB cO em aK (d1 + 1) (lz1 ++ fz) (ks.getD i 0) (ns.getD i []) (kidL x i).2 := hd1 ▸ hvt.mono hgr1
          have htz8 := htz.mono hgr1
          obtain ⟨fsT, htc⟩ := htz8.vin
          have hPc := zz_pickP (pre := []) (fz := (lz1 ++ fz)) (wc := []) hP [] rfl
          have hDc := zz_pickD (pre := []) (fz := (lz1 ++ fz)) (wc := []) hD [] (by decide) rfl
          have hFc := zz_free (pre := []) (fz := (lz1 ++ fz)) (wc := []) hD hS hA [] rfl
          have hKc := hK.sub (tys' := [(cB, .byte), (cO, .object "java/lang/Object")]) [0, 1] rfl
          refine va_calli (va_runV (As := [.ref (ks.getD i 0)]) (rest := []) ⟨hx, hb, hml, hown, htb⟩ (k_TE_holds l dC dI _ te t0 (ks.getD i 0) d1 (ns.getD i []) (kidL x i) cB cO em aK aV (lz1 ++ fz) htz8 hvt8 (by omega)) (cwV 1 htb (g_V (fun _ h => h) m_1030 m_1027 m_1028 m_1029 m_27) rfl rfl rfl (by decide +kernel) ⟨Nat.le_of_ble_eq_true rfl, Nat.le_of_ble_eq_true rfl⟩) ⟨fun a U g mk q => by obtain ⟨q0, q1, qP, qK, qD, z0⟩ := q; exact ⟨q0, q1, qP, va_K.moved (u := U) (U := U.calling g mk a) (Vm.Alike.refl U.vm) qK, qD, EX.same (U := U) (U' := U.calling g mk a) rfl z0⟩, (zz_recv hK hP (ci := 11) rfl (List.mem_append_right _ htc)), fun U hU hW => ⟨rfl, by rw [hU], by rw [hU]; exact hPc, va_K.moved hW.alike hKc, hDc.weaken (fun _ _ _ _ => trivial), by rw [hU]; exact EX.warm hW ((hE.kept (fun a h1 h2 => hS.2.1 a h1 h2)).narrow hFc)⟩⟩ rfl rfl hl.1 rfl (lv_room (Nat.le_of_ble_eq_true rfl)) d_SE_choose_71 ⟨(by show (acl (xs.length + x1.length) - acl xs.length) ≤ (acl (xs.length + (chs s0 x).length) - acl xs.length); omega), (by show (asl (xs.length + x1.length) - asl xs.length) ≤ (asl (xs.length + (chs s0 x).length) - asl xs.length); omega)⟩) hS (fun q _ h => hFc q h) hFc (fun r33 u32 t H1 locs ht hvm hw34 hB hz1 hk1 hS => ?_)
          obtain ⟨hP1, hK1, hD1⟩ := hB
          rw [ht] at hP1
          have hK1 := va_K.moved hvm.symm hK1
          replace hw34 : r33 = bI (hld t0 (kidL x i)) := hw34
          obtain ⟨hP, hD⟩ := zz_join (pre := []) (fz := (lz1 ++ fz)) (wc := []) (wr := []) (w1 := ([] ++ (lz1 ++ fz))) hP hD [] [] rfl rfl (by decide) (by decide) hk1 hFc hP1 hD1
          have hK := (hK.sub (tys' := []) [] rfl).app hK1
          generalize H1 = H at hP hS ⊢
          replace hP : va_P (dC, dI) vwCl ([] ++ (lz1 ++ fz)) H := hP
          replace hD : va_D A ([] ++ (lz1 ++ fz)) := hD
          replace hK : va_K (dC, dI) vwCl [(cB, .byte), (cO, .object "java/lang/Object")] s := hK
          clear hPc hDc hFc hKc hP1 hD1 hK1 hk1 hz1 ht hvm
          refine lv_if_eq (tgt := 84) hx hb d_SE_choose_74 rfl (fun h6 => ?_) (fun h6 => ?_)
          · have h6 : hld t0 (kidL x i) = false := bI_eq.mp (show bI (hld t0 (kidL x i)) = 0 from hw34 ▸ h6)
            refine lv_iinc (k := 1) (v := ((nI i) + Int32.ofInt 1)) hx hb d_SE_choose_84 hl rfl rfl (by decide) rfl (fun ls hl => ?_)
            replace hl : lv_has ls 5 [(3, .int ((nI i) + Int32.ofInt 1)), (4, .ref (ks.getD i 0)), (2, .ref pl), (1, .ref a), (0, .ref o)] := hl
            rw [show nI i + Int32.ofInt 1 = nI (i + 1) from nI_1 _] at hl
            replace hl : lv_has ls 5 [(3, .int (nI (i + 1))), (4, .ref (ks.getD i 0)), (2, .ref pl), (1, .ref a), (0, .ref o)] := hl
            refine lv_goto (tgt := 34) hx hb d_SE_choose_87 rfl ?_
            exact ih (ks.length - (i + 1)) (by omega) (i + 1) lz1 x1 H locs ls rfl (by omega) (hiL) (by rw [filter_take1 hik, if_neg (by rw [h6]; decide), List.append_nil]; exact hi6) (lv_sub hl [0, 2, 3, 4] rfl) (zz_pickP (pre := []) (fz := (lz1 ++ fz)) (wc := []) hP [] rfl) (zz_pickD (pre := []) (fz := (lz1 ++ fz)) (wc := []) hD [] (by decide) rfl) hS
          · have h6 : hld t0 (kidL x i) = true := bI_ne.mp (show ¬ bI (hld t0 (kidL x i)) = 0 from hw34 ▸ h6)
            have hdl2 : x1.length + 1 ≤ (chs s0 x).length := kid_roomT hcs hik (by omega) h6
            have hup2 := ac_up (xs.length + x1.length + 1) (xs.length + (chs s0 x).length) (by omega) (by omega)
            refine lv_aload_n hx hb d_SE_choose_77 rfl (lv_at hl 2 rfl) ?_
            refine lv_aload hx hb d_SE_choose_78 (lv_at hl 0 rfl) ?_
            have hac1 := ac_mono (xs.length + x1.length) (by omega)
            have hau := ac_up xs.length (xs.length + x1.length) (by omega) (by omega)
            have hlx : (xs ++ x1).length = xs.length + x1.length := List.length_append
            rw [← hlx] at hac1 hau
            have hax0 : acl (xs.length + x1.length) = acl (xs ++ x1).length := by rw [hlx]
            have hay0 : asl (xs.length + x1.length) = asl (xs ++ x1).length := by rw [hlx]
            have hax2 : acl (xs.length + x1.length + 1) = acl ((xs ++ x1).length + 1) := by rw [hlx]
            have hay2 : asl (xs.length + x1.length + 1) = asl ((xs ++ x1).length + 1) := by rw [hlx]
            have hPc := zz_pickP (pre := []) (fz := (lz1 ++ fz)) (wc := []) hP [] rfl
            have hDc := zz_pickD (pre := []) (fz := (lz1 ++ fz)) (wc := []) hD [] (by decide) rfl
            have hFc := zz_free (pre := []) (fz := (lz1 ++ fz)) (wc := []) hD hS hA [] rfl
            have hKc := hK.sub (tys' := [(cO, .object "java/lang/Object")]) [1] rfl
            refine va_calli (va_runV (As := [.ref (ks.getD i 0)]) (rest := []) ⟨hx, hb, hml, hown, htb⟩ (k_AL_add l dC dI _ pl (xs ++ x1) cO 3 (ks.getD i 0) em aK aV lz1 fz Oci3 hiL ((hls.cat hi6).vin) ((hvt).vin) (by rw [List.length_append]; omega)) (cwV 1 htb (g_V (fun _ h => h) m_525 m_1026 m_523 m_524 m_8) rfl rfl rfl (by decide +kernel) ⟨Nat.le_of_ble_eq_true rfl, Nat.le_of_ble_eq_true rfl⟩) ⟨fun a U g mk q => by obtain ⟨q0, q1, qP, qK, qD, z0⟩ := q; exact ⟨q0, q1, qP, va_K.moved (u := U) (U := U.calling g mk a) (Vm.Alike.refl U.vm) qK, qD, EX.same (U := U) (U' := U.calling g mk a) rfl z0⟩, (hiL.frozen).recv hK hP (fun q hq => List.mem_append_right _ (List.mem_append_left _ hq)), fun U hU hW => ⟨rfl, by rw [hU], by rw [hU]; exact hPc, va_K.moved hW.alike hKc, hDc.weaken (fun _ _ _ _ => trivial), by rw [hU]; exact EX.warm hW ((hE.kept (fun a h1 h2 => hS.2.1 a h1 h2)).narrow hFc)⟩⟩ rfl rfl hl.1 rfl (lv_room (Nat.le_of_ble_eq_true rfl)) d_SE_choose_80 ⟨(by show ((acl (xs.length + x1.length) - acl xs.length) + (acl ((xs ++ x1).length + 1) - acl (xs ++ x1).length)) ≤ (acl (xs.length + (chs s0 x).length) - acl xs.length); omega), (by show ((asl (xs.length + x1.length) - asl xs.length) + (asl ((xs ++ x1).length + 1) - asl (xs ++ x1).length)) ≤ (asl (xs.length + (chs s0 x).length) - asl xs.length); omega)⟩) hS (fun q _ h => hFc q h) hFc (fun r37 u36 t H1 locs ht hvm hw38 hB hz1 hk1 hS => ?_)
            obtain ⟨hP1, hK1, hD1⟩ := hB
            rw [ht] at hP1
            have hK1 := va_K.moved hvm.symm hK1
            replace hw38 : ALc cO em pl ((xs ++ x1) ++ [(ks.getD i 0)]) u36 := hw38
            obtain ⟨hP, hD⟩ := zz_join (pre := []) (fz := (lz1 ++ fz)) (wc := []) (wr := []) (w1 := ([] ++ (u36 ++ fz))) hP hD [] [] rfl rfl (by decide) (by decide) hk1 hFc hP1 hD1
            have hK := (hK.sub (tys' := [(cB, .byte)]) [0] rfl).app hK1
            generalize H1 = H at hP hS ⊢
            replace hP : va_P (dC, dI) vwCl ([] ++ (u36 ++ fz)) H := hP
            replace hD : va_D A ([] ++ (u36 ++ fz)) := hD
            replace hK : va_K (dC, dI) vwCl [(cB, .byte), (cO, .object "java/lang/Object")] s := hK
            clear hPc hDc hFc hKc hP1 hD1 hK1 hk1 hz1 ht hvm
            have hal9 : ALc cO em pl (xs ++ (x1 ++ [(ks.getD i 0)])) u36 := by rw [← List.append_assoc]; exact hw38
            have hxl : (x1 ++ [(ks.getD i 0)]).length = x1.length + 1 := by simp
            have hax : acl (xs.length + (x1 ++ [(ks.getD i 0)]).length) = acl ((xs ++ x1).length + 1) := by rw [hxl, hlx]; rfl
            have hay : asl (xs.length + (x1 ++ [(ks.getD i 0)]).length) = asl ((xs ++ x1).length + 1) := by rw [hxl, hlx]; rfl
            refine lv_pop hx hb d_SE_choose_83 rfl ?_
            refine lv_iinc (k := 1) (v := ((nI i) + Int32.ofInt 1)) hx hb d_SE_choose_84 hl rfl rfl (by decide) rfl (fun ls hl => ?_)
            replace hl : lv_has ls 5 [(3, .int ((nI i) + Int32.ofInt 1)), (4, .ref (ks.getD i 0)), (2, .ref pl), (1, .ref a), (0, .ref o)] := hl
            rw [show nI i + Int32.ofInt 1 = nI (i + 1) from nI_1 _] at hl
            replace hl : lv_has ls 5 [(3, .int (nI (i + 1))), (4, .ref (ks.getD i 0)), (2, .ref pl), (1, .ref a), (0, .ref o)] := hl
            refine lv_goto (tgt := 34) hx hb d_SE_choose_87 rfl ?_
            refine W.widen (k := (acl (xs.length + (x1 ++ [(ks.getD i 0)]).length) - acl xs.length)) (n := (asl (xs.length + (x1 ++ [(ks.getD i 0)]).length) - asl xs.length)) (by omega) (by omega) ?_
            exact ih (ks.length - (i + 1)) (by omega) (i + 1) u36 (x1 ++ [(ks.getD i 0)]) H locs ls rfl (by omega) (hal9) (by rw [filter_take1 hik, if_pos h6]; exact hi6.app (p := kidL x i) (by omega) (kid_le hv hik h32) hvt) (lv_sub hl [0, 2, 3, 4] rfl) (zz_pickP (pre := []) (fz := (u36 ++ fz)) (wc := []) hP [] rfl) (zz_pickD (pre := []) (fz := (u36 ++ fz)) (wc := []) hD [] (by decide) rfl) hS
    refine W.widen (k := (acl (xs.length + ([] : List Nat).length) - acl xs.length)) (n := (asl (xs.length + ([] : List Nat).length) - asl xs.length)) (by omega) (by omega) ?_
    exact hloop _ 0 lz ([] : List Nat) _ _ ls rfl (Nat.zero_le _) (by rw [List.append_nil]; exact hal) (VLS.nil) (lv_sub hl [0, 3, 2, 1] rfl) (zz_pickP (pre := []) (fz := (lz ++ fz)) (wc := []) hP [] rfl) (zz_pickD (pre := []) (fz := (lz ++ fz)) (wc := []) hD [] (by decide) rfl) hS
