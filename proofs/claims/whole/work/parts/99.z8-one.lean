theorem mm_minI {x y : Int} (h1 : -5000 ≤ x) (h2 : x ≤ 5000) (h3 : -5000 ≤ y) (h4 : y ≤ 5000) : (if iI y < iI x then iI y else iI x) = iI (min x y) := by
  by_cases h : y < x
  · rw [if_pos ((iI_ltI (by omega) (by omega) (by omega) (by omega)).mpr h)]; exact congrArg iI (by omega)
  · rw [if_neg (fun h9 => h ((iI_ltI (by omega) (by omega) (by omega) (by omega)).mp h9))]; exact congrArg iI (by omega)
theorem mm_maxI {x y : Int} (h1 : -5000 ≤ x) (h2 : x ≤ 5000) (h3 : -5000 ≤ y) (h4 : y ≤ 5000) : (if iI x < iI y then iI y else iI x) = iI (max x y) := by
  by_cases h : x < y
  · rw [if_pos ((iI_ltI (by omega) (by omega) (by omega) (by omega)).mpr h)]; exact congrArg iI (by omega)
  · rw [if_neg (fun h9 => h ((iI_ltI (by omega) (by omega) (by omega) (by omega)).mp h9))]; exact congrArg iI (by omega)
set_option maxHeartbeats 1000000 in
set_option maxRecDepth 100000 in
/-- bound(..) -/
theorem q_SE_bound (l : Launch) (dC : Nat → ClassId) (dI : Nat → Nat → Nat) (oa : Option Int) (n : Nat) (lo : Int) (hi : Int) (ins : Int) (hoa : ∀ v8, oa = some v8 → -999 ≤ v8 ∧ v8 ≤ 999) (hn : n ≤ 160) (hlo1 : -5000 ≤ lo) (hlo2 : lo ≤ 5000) (hhi1 : -5000 ≤ hi) (hhi2 : hi ≤ 5000) : Met l y_SE_bound ws_SE_bound ({ frames := 1, cells := 0, slots := 0, locals := 14 }) (va_Pc [.int (ixI oa), .int (nI n), .int (iI lo), .int (iI hi), .int (iI ins)] (fun U => va_P (dC, dI) vwCl [] U.heap ∧ va_K (dC, dI) vwCl [] U)) (vp_Si (fun (r : Int32) => r = iI (bnd oa n lo hi ins))) 0 0 (fun _ => False) := by
  refine Met.ofW (cc := c_SE_bound) (maxL := 6) (ret := (some .int)) (by decide) rfl ?_
  intro p e s m args below meth c s₁ B hml hv
  obtain ⟨rfl, hP, hK⟩ := hv
  have hx := B.exec
  have hb := B.bytes
  have hr := B.returns
  have hts := atoms_spec (ws := ws_SE_bound) B.pre
  have htb := fun w (h : w ∈ TBL) => hts w (List.mem_cons_of_mem _ h)
  have hown : s.vm.findClass R_SE = some m.cls := findClass_of_methodNamed B.named
  have hlocks := B.notSynchronized
  have hl := lv_entry ([.int (ixI oa), .int (nI n), .int (iI lo), .int (iI hi), .int (iI ins)]) (n := 6) (Nat.le_of_ble_eq_true rfl)
  rw [lg_entry_eq]
  generalize (lg_sl ([.int (ixI oa), .int (nI n), .int (iI lo), .int (iI hi), .int (iI ins)]) ++ List.replicate (6 - (lg_sl ([.int (ixI oa), .int (nI n), .int (iI lo), .int (iI hi), .int (iI ins)])).length) Slot.unset).toArray = ls at hl ⊢
  replace hl : lv_has ls 6 [(0, .int (ixI oa)), (1, .int (nI n)), (2, .int (iI lo)), (3, .int (iI hi)), (4, .int (iI ins))] := hl
  refine lv_iload_n hx hb d_SE_bound_0 rfl (lv_at hl 0 rfl) ?_
  refine lv_sipush (v := 1000) hx hb d_SE_bound_1 (by decide) ?_
  refine lv_icmp_ne (tgt := 10) hx hb d_SE_bound_4 rfl (fun h1 => ?_) (fun h1 => ?_)
  · obtain ⟨v, hv⟩ := ixI_no h1
    obtain ⟨hv1, hv2⟩ := hoa v hv
    have hix : ixI oa = iI v := by rw [hv]; rfl
    refine lv_iload_n hx hb d_SE_bound_10 rfl (lv_at hl 0 rfl) ?_
    refine lv_if_ge (tgt := 20) hx hb d_SE_bound_11 rfl (fun h2 => ?_) (fun h2 => ?_)
    · rw [hix] at h2
      have h2 : ¬ v < 0 := fun h => absurd h2 (Int32.not_le.mpr ((iI_lt0 (by omega) (by omega)).mpr h))
      refine lv_iload_n hx hb d_SE_bound_20 rfl (lv_at hl 0 rfl) ?_
      refine W.eq (congrArg (fun z => F0 m 21 ls (.int z :: [])) (hix : (ixI oa) = iI v)) ?_
      refine lv_istore hx hb d_SE_bound_21 hl (by decide) rfl (fun ls hl => ?_)
      replace hl : lv_has ls 6 [(5, .int (iI v)), (0, .int (ixI oa)), (1, .int (nI n)), (2, .int (iI lo)), (3, .int (iI hi)), (4, .int (iI ins))] := hl
      refine lv_iload_n hx hb d_SE_bound_23 rfl (lv_at hl 3 rfl) ?_
      refine lv_iload_n hx hb d_SE_bound_24 rfl (lv_at hl 4 rfl) ?_
      refine lv_iload hx hb d_SE_bound_25 (lv_at hl 0 rfl) ?_
      refine va_mmin hx hb (hml.trans hl.1.symm) hown (htb _ m_1022) (htb _ m_230) (htb _ m_13) (htb _ m_231) (Nat.le_of_ble_eq_true rfl) (Nat.le_of_ble_eq_true rfl) (Nat.le_of_ble_eq_true rfl) (Nat.le_of_ble_eq_true rfl) d_SE_bound_27 ?_
      refine W.eq (congrArg (fun z => F0 m 30 ls (.int z :: [.int (iI lo)])) (mm_minI (by omega) (by omega) (by omega) (by omega) : (if iI v < iI hi then iI v else iI hi) = iI (min hi v))) ?_
      refine va_mmax hx hb (hml.trans hl.1.symm) hown (htb _ m_1023) (htb _ m_212) (htb _ m_13) (htb _ m_213) (Nat.le_of_ble_eq_true rfl) (Nat.le_of_ble_eq_true rfl) (Nat.le_of_ble_eq_true rfl) (Nat.le_of_ble_eq_true rfl) d_SE_bound_30 ?_
      refine W.eq (congrArg (fun z => F0 m 33 ls (.int z :: [])) (mm_maxI (by omega) (by omega) (by omega) (by omega) : (if iI lo < iI (min hi v) then iI (min hi v) else iI lo) = iI (max lo (min hi v)))) ?_
      exact W.iret (v := (iI (max lo (min hi v)))) hx hb hr (fun t ht hW => ⟨(iI (max lo (min hi v))), rfl, by rw [hv]; show _ = iI (max lo (min hi (if v < 0 then v + n else v))); rw [if_neg h2], ht⟩) (fun q h => absurd h List.not_mem_nil) d_SE_bound_33
    · rw [hix] at h2
      have h2 : v < 0 := (iI_lt0 (by omega) (by omega)).mp (Int32.not_le.mp h2)
      refine lv_iload_n hx hb d_SE_bound_14 rfl (lv_at hl 0 rfl) ?_
      refine lv_iload_n hx hb d_SE_bound_15 rfl (lv_at hl 1 rfl) ?_
      refine lv_iadd hx hb d_SE_bound_16 ?_
      refine W.eq (congrArg (fun z => F0 m 17 ls (.int z :: [])) (by rw [hix, ← iI_nat, iI_add] : ((ixI oa) + (nI n)) = iI (v + (n : Int)))) ?_
      refine lv_goto (tgt := 21) hx hb d_SE_bound_17 rfl ?_
      refine lv_istore hx hb d_SE_bound_21 hl (by decide) rfl (fun ls hl => ?_)
      replace hl : lv_has ls 6 [(5, .int (iI (v + (n : Int)))), (0, .int (ixI oa)), (1, .int (nI n)), (2, .int (iI lo)), (3, .int (iI hi)), (4, .int (iI ins))] := hl
      refine lv_iload_n hx hb d_SE_bound_23 rfl (lv_at hl 3 rfl) ?_
      refine lv_iload_n hx hb d_SE_bound_24 rfl (lv_at hl 4 rfl) ?_
      refine lv_iload hx hb d_SE_bound_25 (lv_at hl 0 rfl) ?_
      refine va_mmin hx hb (hml.trans hl.1.symm) hown (htb _ m_1022) (htb _ m_230) (htb _ m_13) (htb _ m_231) (Nat.le_of_ble_eq_true rfl) (Nat.le_of_ble_eq_true rfl) (Nat.le_of_ble_eq_true rfl) (Nat.le_of_ble_eq_true rfl) d_SE_bound_27 ?_
      refine W.eq (congrArg (fun z => F0 m 30 ls (.int z :: [.int (iI lo)])) (mm_minI (by omega) (by omega) (by omega) (by omega) : (if iI (v + (n : Int)) < iI hi then iI (v + (n : Int)) else iI hi) = iI (min hi (v + (n : Int))))) ?_
      refine va_mmax hx hb (hml.trans hl.1.symm) hown (htb _ m_1023) (htb _ m_212) (htb _ m_13) (htb _ m_213) (Nat.le_of_ble_eq_true rfl) (Nat.le_of_ble_eq_true rfl) (Nat.le_of_ble_eq_true rfl) (Nat.le_of_ble_eq_true rfl) d_SE_bound_30 ?_
      refine W.eq (congrArg (fun z => F0 m 33 ls (.int z :: [])) (mm_maxI (by omega) (by omega) (by omega) (by omega) : (if iI lo < iI (min hi (v + (n : Int))) then iI (min hi (v + (n : Int))) else iI lo) = iI (max lo (min hi (v + (n : Int)))))) ?_
      exact W.iret (v := (iI (max lo (min hi (v + (n : Int)))))) hx hb hr (fun t ht hW => ⟨(iI (max lo (min hi (v + (n : Int))))), rfl, by rw [hv]; show _ = iI (max lo (min hi (if v < 0 then v + n else v))); rw [if_pos h2], ht⟩) (fun q h => absurd h List.not_mem_nil) d_SE_bound_33
  · have h1 := ixI_1000 hoa h1
    refine lv_iload hx hb d_SE_bound_7 (lv_at hl 4 rfl) ?_
    exact W.iret (v := (iI ins)) hx hb hr (fun t ht hW => ⟨(iI ins), rfl, by rw [h1]; rfl, ht⟩) (fun q h => absurd h List.not_mem_nil) d_SE_bound_9
set_option maxHeartbeats 1000000 in
set_option maxRecDepth 100000 in
/-- oneIn(value) -/
theorem k_SE_oneIn (l : Launch) (dC : Nat → ClassId) (dI : Nat → Nat → Nat) (sz : Nat) (o : Nat) (q : Acx) (f0 : va_W) (a : Nat) (d : Nat) (nn : List Nat) (rows : List Row) (cB : ClassId) (cO : ClassId) (em : Nat) (aK : Nat → Nat) (aV : Nat → Nat) (fz : va_W) (hac : ACz cB aK f0 q o) (hv : VT cB cO em aK (d + 1) f0 a nn rows) (hsub : ∀ q8 ∈ f0, q8 ∈ fz) : Met l y_SE_oneIn ws_SE_oneIn ({ frames := 4, cells := 0, slots := 0, locals := 86 }) (va_Pc [.ref o, .ref a] (fun U => U.heap.size = sz ∧ va_P (dC, dI) vwCl ([] ++ fz) U.heap ∧ va_K (dC, dI) vwCl [(cB, .byte), (cO, .object "java/lang/Object")] U ∧ va_D (fun _ => True) ([] ++ fz) ∧ EX em aK aV (va_A ([] ++ fz) sz) U U.heap)) (va_Qq (fun (r : Option Nat) (u : Unit) => (r = none ∧ acR q rows = none) ∨ ∃ t8 y8 n8, r = some y8 ∧ acR q rows = some t8 ∧ t8 < (ksR rows).length ∧ VT cB cO em aK d f0 y8 n8 ((ksR rows).getD t8 [])) (fun u t => va_P (dC, dI) vwCl ([] ++ fz) t.heap ∧ va_K (dC, dI) vwCl [(cB, .byte), (cO, .object "java/lang/Object")] t ∧ va_D (va_A ([] ++ fz) sz) ([] ++ fz)) (va_A ([] ++ fz) sz)) 0 0 (va_A ([] ++ fz) sz) := by
  refine Met.ofW (cc := c_SE_oneIn) (maxL := 4) (ret := (some (.object "PatchStore$Value"))) (by decide) rfl ?_
  intro p e s m args below meth c s₁ B hml hv
  obtain ⟨hargs, hsz, hP, hK, hD0, hE⟩ := hv
  rw [show entryFrame m args 4 = entryFrame m ([.ref o, .ref a]).toArray 4 by rw [hargs]]
  have hx := B.exec
  have hb := B.bytes
  have hr := B.returns
  have hts := atoms_spec (ws := ws_SE_oneIn) B.pre
  have htb := fun w (h : w ∈ TBL) => hts w (List.mem_cons_of_mem _ h)
  have hown : s.vm.findClass R_SE = some m.cls := findClass_of_methodNamed B.named
  have hlocks := B.notSynchronized
  subst hsz
  have hD := hD0.self (sz := s.heap.size)
  generalize hAe : va_A ([] ++ fz) s.heap.size = A at hD hE ⊢
  have hA : ∀ q : Nat, s.heap.size ≤ q → A q := fun q h => by rw [← hAe]; exact Or.inr h
  have hS : va_S A s.heap s.heap [] := va_S.rf
  have hP : va_P (dC, dI) vwCl ([] ++ fz) s.heap := hP
  have hl := lv_entry ([.ref o, .ref a]) (n := 4) (Nat.le_of_ble_eq_true rfl)
  rw [lg_entry_eq]
  generalize (lg_sl ([.ref o, .ref a]) ++ List.replicate (4 - (lg_sl ([.ref o, .ref a])).length) Slot.unset).toArray = ls at hl ⊢
  replace hl : lv_has ls 4 [(0, .ref o), (1, .ref a)] := hl
  refine zz_nQ (fun Q hQ => ?_)
  obtain ⟨kd, tx, nu, nm, pa, dp, cn, tt, kk, num, rt, xs, ns, hc, htx, hnm, hal, hhd, hnl, hrl, hkf, hvl, hhk, hns, hdp, hcn, hrw, h160⟩ := (id hv : VT cB cO em aK (d + 1) f0 a nn rows).opn
  have hal8 := hal.mono hsub
  have hv8 := hv.mono hsub
  rcases hac with hac | hac
  · obtain ⟨hq1, nA, hs1, hs2⟩ := hac
    refine lv_aload_n hx hb d_SE_oneIn_0 rfl (lv_at hl 0 rfl) ?_
    obtain ⟨qz21, hz21⟩ := List.getElem?_of_mem (List.mem_append_right [] (hsub _ hs1))
    refine va_get (D := (dC, dI)) (ci := 10) (v := .int 0) (C := R_SE) (T := T_SE) (N := 6) hx hb htb in_SE hown hK hP qz21 hz21 rfl 2 (by decide) (htb _ m_901) (fun _ h9 => h9) rfl d_SE_oneIn_1 ?_
    refine lv_if_ge (tgt := 22) hx hb d_SE_oneIn_4 rfl (fun _ => ?_) (fun h9 => absurd (Int32.le_refl _) h9)
    refine lv_aload_n hx hb d_SE_oneIn_22 rfl (lv_at hl 0 rfl) ?_
    obtain ⟨qz22, hz22⟩ := List.getElem?_of_mem (List.mem_append_right [] (hsub _ hs1))
    refine va_get (D := (dC, dI)) (ci := 10) (v := .int 0) (C := R_SE) (T := T_SE) (N := 6) hx hb htb in_SE hown hK hP qz22 hz22 rfl 2 (by decide) (htb _ m_901) (fun _ h9 => h9) rfl d_SE_oneIn_23 ?_
    refine lv_istore_n hx hb d_SE_oneIn_26 rfl hl (by decide) rfl (fun ls hl => ?_)
    replace hl : lv_has ls 4 [(2, .int 0), (0, .ref o), (1, .ref a)] := hl
    refine lv_aload_n hx hb d_SE_oneIn_27 rfl (lv_at hl 1 rfl) ?_
    obtain ⟨qz23, hz23⟩ := List.getElem?_of_mem (List.mem_append_right [] (hsub _ hs1))
    refine va_get (D := (dC, dI)) (ci := 10) (v := .int 1) (C := R_SE) (T := T_SE) (N := 6) hx hb htb in_SE hown hK hP qz23 hz23 rfl 0 (by decide) (htb _ m_899) (fun _ h9 => h9) rfl d_SE_oneIn_28 ?_
    refine lv_iconst (v := 1) hx hb d_SE_oneIn_31 (by decide) ?_
    refine lv_icmp_ne (tgt := 46) hx hb d_SE_oneIn_32 rfl (fun h9 => absurd (rfl) h9) (fun _ => ?_)
    refine lv_aload_n hx hb d_SE_oneIn_35 rfl (lv_at hl 2 rfl) ?_
    refine lv_aload_n hx hb d_SE_oneIn_36 rfl (lv_at hl 1 rfl) ?_
    obtain ⟨qz24, hz24⟩ := List.getElem?_of_mem (List.mem_append_right [] (hsub _ hs1))
    refine va_get (D := (dC, dI)) (ci := 10) (v := .ref nA) (C := R_SE) (T := T_SE) (N := 6) hx hb htb in_SE hown hK hP qz24 hz24 rfl 1 (by decide) (htb _ m_900) (fun _ h9 => h9) rfl d_SE_oneIn_37 ?_
    have hPc := zz_pickP (pre := []) (fz := fz) (wc := []) hP [] rfl
    have hDc := zz_pickD (pre := []) (fz := fz) (wc := []) hD [] (by decide) rfl
    have hFc := zz_free (pre := []) (fz := fz) (wc := []) hD hS hA [] rfl
    have hKc := hK.sub (tys' := [(cB, .byte), (cO, .object "java/lang/Object")]) [0, 1] rfl
    refine va_calli (va_runV (As := [.ref nA]) (rest := []) ⟨hx, hb, hml, hown, htb⟩ (k_VA_placeOfMember l dC dI _ a d nn rows nA q.2.1 cB cO em aK aV fz hv8 (hs2.mono hsub)) (cwV 1 htb (g_V (fun _ h => h) m_597 m_1038 m_595 m_596 m_18) rfl rfl rfl (by decide +kernel) ⟨Nat.le_of_ble_eq_true rfl, Nat.le_of_ble_eq_true rfl⟩) ⟨fun a U g mk q => by obtain ⟨q0, q1, qP, qK, qD, z0⟩ := q; exact ⟨q0, q1, qP, va_K.moved (u := U) (U := U.calling g mk a) (Vm.Alike.refl U.vm) qK, qD, EX.same (U := U) (U' := U.calling g mk a) rfl z0⟩, zz_recv hK hP (ci := 3) rfl (List.mem_append_right _ (hsub _ hc)), fun U hU hW => ⟨rfl, by rw [hU], by rw [hU]; exact hPc, va_K.moved hW.alike hKc, hDc.weaken (fun _ _ _ _ => trivial), by rw [hU]; exact EX.warm hW ((hE.kept (fun a h1 h2 => hS.2.1 a h1 h2)).narrow hFc)⟩⟩ rfl rfl hl.1 rfl (lv_room (Nat.le_of_ble_eq_true rfl)) d_SE_oneIn_40 ⟨Nat.le_of_ble_eq_true rfl, Nat.le_of_ble_eq_true rfl⟩) hS (fun q _ h => hFc q h) hFc (fun r26 u25 t H1 locs ht hvm hw27 hB hz1 hk1 hS => ?_)
    obtain ⟨hP1, hK1, hD1⟩ := hB
    rw [ht] at hP1
    have hK1 := va_K.moved hvm.symm hK1
    replace hw27 : r26 = oI (mpl rows q.2.1) := hw27
    obtain ⟨hP, hD⟩ := zz_join (pre := []) (fz := fz) (wc := []) (wr := []) (w1 := ([] ++ fz)) hP hD [] [] rfl rfl (by decide) (by decide) hk1 hFc hP1 hD1
    have hK := (hK.sub (tys' := []) [] rfl).app hK1
    generalize H1 = H at hP hS ⊢
    replace hP : va_P (dC, dI) vwCl ([] ++ fz) H := hP
    replace hD : va_D A ([] ++ fz) := hD
    replace hK : va_K (dC, dI) vwCl [(cB, .byte), (cO, .object "java/lang/Object")] s := hK
    clear hPc hDc hFc hKc hP1 hD1 hK1 hk1 hz1 ht hvm
    obtain rfl := hw27
    have har : acR q rows = (mpl rows q.2.1) := if_pos hq1
    refine lv_goto (tgt := 51) hx hb d_SE_oneIn_43 rfl ?_
    refine lv_istore_n hx hb d_SE_oneIn_51 rfl hl (by decide) rfl (fun ls hl => ?_)
    replace hl : lv_has ls 4 [(3, .int (oI (mpl rows q.2.1))), (2, .int 0), (0, .ref o), (1, .ref a)] := hl
    refine lv_iload_n hx hb d_SE_oneIn_52 rfl (lv_at hl 0 rfl) ?_
    refine lv_if_ge (tgt := 60) hx hb d_SE_oneIn_53 rfl (fun h3 => ?_) (fun h3 => ?_)
    · obtain ⟨t8, ht1, ht2⟩ := oI_some (Int32.not_lt.mpr h3)
      have hlt : t8 < xs.length := by have := acR_lt (har.trans ht1); omega
      have hvt := hvl t8 hlt
      obtain ⟨kd0, tx0, nu0, nm0, pa0, dp0, cn0, hc0, hn0⟩ := hvt.cellN
      refine lv_aload_n hx hb d_SE_oneIn_60 rfl (lv_at hl 3 rfl) ?_
      obtain ⟨qz29, hz29⟩ := List.getElem?_of_mem (List.mem_append_right [] (hsub _ hc))
      refine va_get (D := (dC, dI)) (ci := 3) (v := .ref pa) (C := R_VA) (T := T_VA) (N := 7) hx hb htb in_VA hown hK hP qz29 hz29 rfl 4 (by decide) (htb _ m_398) (fun _ h9 => h9) rfl d_SE_oneIn_61 ?_
      refine lv_iload_n hx hb d_SE_oneIn_64 rfl (lv_at hl 0 rfl) ?_
      refine W.eq (congrArg (fun z => F0 m 65 ls (.int z :: [.ref pa])) (ht2 : (oI (mpl rows q.2.1)) = nI t8)) ?_
      have hPc : va_P (dC, dI) vwCl ([] ++ fz) _ := zz_tlP (pre := []) (tl := fz) hP
      have hKc := hK.sub (tys' := [(cO, .object "java/lang/Object")]) [1] rfl
      refine va_csq (W.runV (As := [.int (nI t8)]) (rest := []) ⟨hx, hb, hml, hown, htb⟩ (z_AL_get l dC dI pa xs cO em t8 fz hal8 hlt) (cwV 1 htb (g_V (fun _ h => h) m_490 m_1024 m_488 m_489 m_8) rfl rfl rfl (by decide +kernel) ⟨Nat.le_of_ble_eq_true rfl, Nat.le_of_ble_eq_true rfl⟩) ⟨fun a U g mk q => by obtain ⟨q0, qP, qK⟩ := q; exact ⟨q0, qP, va_K.moved (u := U) (U := U.calling g mk a) (Vm.Alike.refl U.vm) qK⟩, (hal8).recv hK hP (fun q hq => List.mem_append_right _ hq), fun U hU hW => ⟨rfl, by rw [hU]; exact hPc, va_K.moved hW.alike hKc⟩⟩ rfl rfl hl.1 rfl (lv_room (Nat.le_of_ble_eq_true rfl)) d_SE_oneIn_65 ⟨Nat.le_of_ble_eq_true rfl, Nat.le_of_ble_eq_true rfl⟩) (fun r30 hw31 => ?_)
      replace hw31 : r30 = some (xs.getD t8 0) := hw31
      clear hPc hKc
      obtain rfl := hw31
      refine W.eq (g2 := F0 m 68 ls [.ref (xs.getD t8 0)]) rfl ?_
      refine va_castY (C := "PatchStore$Value") hx hb hown (htb _ m_1025) (nw_14 hE) (zz_recv hK hP (ci := 3) rfl (List.mem_append_right _ (hsub _ hc0))) d_SE_oneIn_68 ?_
      have hP9 := zz_pickP (pre := []) (fz := fz) (wc := []) hP [] rfl
      have hD9 := zz_pickD (pre := []) (fz := fz) (wc := []) hD [] (by decide) rfl
      have hK9 := hK.sub (tys' := [(cB, .byte), (cO, .object "java/lang/Object")]) [0, 1] rfl
      rw [hQ]
      refine W.widen (k := 0) (n := 0) (Nat.le_of_ble_eq_true rfl) (Nat.le_of_ble_eq_true rfl) ?_
      exact W.aret (v := .ref (xs.getD t8 0)) hx hb hr (Or.inl ⟨_, rfl⟩) (Or.inr ⟨_, rfl⟩) (fun t ht hW => ⟨⟨(some (xs.getD t8 0)), (), rfl, Or.inr ⟨t8, _, _, rfl, har.trans ht1, acR_lt (har.trans ht1), hvt⟩, ⟨by rw [ht]; exact hP9, va_K.moved hW.alike hK9, hD9⟩⟩, hS.F ht⟩) hS.2.2 d_SE_oneIn_71
    · have hno : (mpl rows q.2.1) = none := oI_none (Int32.not_le.mp h3) (fun t h => by have := acR_lt (har.trans h); omega)
      refine lv_null hx hb d_SE_oneIn_56 ?_
      refine lv_goto (tgt := 71) hx hb d_SE_oneIn_57 rfl ?_
      have hP9 := zz_pickP (pre := []) (fz := fz) (wc := []) hP [] rfl
      have hD9 := zz_pickD (pre := []) (fz := fz) (wc := []) hD [] (by decide) rfl
      have hK9 := hK.sub (tys' := [(cB, .byte), (cO, .object "java/lang/Object")]) [0, 1] rfl
      rw [hQ]
      refine W.widen (k := 0) (n := 0) (Nat.le_of_ble_eq_true rfl) (Nat.le_of_ble_eq_true rfl) ?_
      exact W.aret (v := .null) hx hb hr (Or.inl ⟨_, rfl⟩) (Or.inl rfl) (fun t ht hW => ⟨⟨none, (), rfl, Or.inl ⟨rfl, har.trans hno⟩, ⟨by rw [ht]; exact hP9, va_K.moved hW.alike hK9, hD9⟩⟩, hS.F ht⟩) hS.2.2 d_SE_oneIn_71
  · obtain ⟨hq1, hs1, hq2, hq3⟩ := hac
    refine lv_aload_n hx hb d_SE_oneIn_0 rfl (lv_at hl 0 rfl) ?_
    obtain ⟨qz21, hz21⟩ := List.getElem?_of_mem (List.mem_append_right [] (hsub _ hs1))
    refine va_get (D := (dC, dI)) (ci := 10) (v := .int (iI q.2.2)) (C := R_SE) (T := T_SE) (N := 6) hx hb htb in_SE hown hK hP qz21 hz21 rfl 2 (by decide) (htb _ m_901) (fun _ h9 => h9) rfl d_SE_oneIn_1 ?_
    refine lv_if_ge (tgt := 22) hx hb d_SE_oneIn_4 rfl (fun h2 => ?_) (fun h2 => ?_)
    · have h2 : ¬ q.2.2 < 0 := fun h => absurd h2 (Int32.not_le.mpr ((iI_lt0 (by omega) (by omega)).mpr h))
      refine lv_aload_n hx hb d_SE_oneIn_22 rfl (lv_at hl 0 rfl) ?_
      obtain ⟨qz22, hz22⟩ := List.getElem?_of_mem (List.mem_append_right [] (hsub _ hs1))
      refine va_get (D := (dC, dI)) (ci := 10) (v := .int (iI q.2.2)) (C := R_SE) (T := T_SE) (N := 6) hx hb htb in_SE hown hK hP qz22 hz22 rfl 2 (by decide) (htb _ m_901) (fun _ h9 => h9) rfl d_SE_oneIn_23 ?_
      refine lv_istore_n hx hb d_SE_oneIn_26 rfl hl (by decide) rfl (fun ls hl => ?_)
      replace hl : lv_has ls 4 [(2, .int (iI q.2.2)), (0, .ref o), (1, .ref a)] := hl
      refine lv_aload_n hx hb d_SE_oneIn_27 rfl (lv_at hl 1 rfl) ?_
      obtain ⟨qz23, hz23⟩ := List.getElem?_of_mem (List.mem_append_right [] (hsub _ hs1))
      refine va_get (D := (dC, dI)) (ci := 10) (v := .int 2) (C := R_SE) (T := T_SE) (N := 6) hx hb htb in_SE hown hK hP qz23 hz23 rfl 0 (by decide) (htb _ m_899) (fun _ h9 => h9) rfl d_SE_oneIn_28 ?_
      refine lv_iconst (v := 1) hx hb d_SE_oneIn_31 (by decide) ?_
      refine lv_icmp_ne (tgt := 46) hx hb d_SE_oneIn_32 rfl (fun _ => ?_) (fun h9 => absurd h9 (by decide))
      refine lv_aload_n hx hb d_SE_oneIn_46 rfl (lv_at hl 2 rfl) ?_
      refine lv_iload_n hx hb d_SE_oneIn_47 rfl (lv_at hl 0 rfl) ?_
      have hPc := zz_pickP (pre := []) (fz := fz) (wc := []) hP [] rfl
      have hDc := zz_pickD (pre := []) (fz := fz) (wc := []) hD [] (by decide) rfl
      have hFc := zz_free (pre := []) (fz := fz) (wc := []) hD hS hA [] rfl
      have hKc := hK.sub (tys' := [(cB, .byte), (cO, .object "java/lang/Object")]) [0, 1] rfl
      refine va_calli (va_runV (As := [.int (iI q.2.2)]) (rest := []) ⟨hx, hb, hml, hown, htb⟩ (k_VA_placeOfElement l dC dI _ a d nn rows (iI q.2.2) cB cO em aK aV fz hv8) (cwV 1 htb (g_V (fun _ h => h) m_796 m_1039 m_794 m_795 m_18) rfl rfl rfl (by decide +kernel) ⟨Nat.le_of_ble_eq_true rfl, Nat.le_of_ble_eq_true rfl⟩) ⟨fun a U g mk q => by obtain ⟨q0, q1, qP, qK, qD, z0⟩ := q; exact ⟨q0, q1, qP, va_K.moved (u := U) (U := U.calling g mk a) (Vm.Alike.refl U.vm) qK, qD, EX.same (U := U) (U' := U.calling g mk a) rfl z0⟩, zz_recv hK hP (ci := 3) rfl (List.mem_append_right _ (hsub _ hc)), fun U hU hW => ⟨rfl, by rw [hU], by rw [hU]; exact hPc, va_K.moved hW.alike hKc, hDc.weaken (fun _ _ _ _ => trivial), by rw [hU]; exact EX.warm hW ((hE.kept (fun a h1 h2 => hS.2.1 a h1 h2)).narrow hFc)⟩⟩ rfl rfl hl.1 rfl (lv_room (Nat.le_of_ble_eq_true rfl)) d_SE_oneIn_48 ⟨Nat.le_of_ble_eq_true rfl, Nat.le_of_ble_eq_true rfl⟩) hS (fun q _ h => hFc q h) hFc (fun r25 u24 t H1 locs ht hvm hw26 hB hz1 hk1 hS => ?_)
      obtain ⟨hP1, hK1, hD1⟩ := hB
      rw [ht] at hP1
      have hK1 := va_K.moved hvm.symm hK1
      replace hw26 : r25 = if hdK rows = 5 ∧ ¬ (iI q.2.2) < 0 ∧ (iI q.2.2).toNatClampNeg < (ksR rows).length then (iI q.2.2) else -1 := hw26
      obtain ⟨hP, hD⟩ := zz_join (pre := []) (fz := fz) (wc := []) (wr := []) (w1 := ([] ++ fz)) hP hD [] [] rfl rfl (by decide) (by decide) hk1 hFc hP1 hD1
      have hK := (hK.sub (tys' := []) [] rfl).app hK1
      generalize H1 = H at hP hS ⊢
      replace hP : va_P (dC, dI) vwCl ([] ++ fz) H := hP
      replace hD : va_D A ([] ++ fz) := hD
      replace hK : va_K (dC, dI) vwCl [(cB, .byte), (cO, .object "java/lang/Object")] s := hK
      clear hPc hDc hFc hKc hP1 hD1 hK1 hk1 hz1 ht hvm
      have hre : r25 = oI (elx rows q.2.2) := by rw [hw26]; exact elx_oI hq2 hq3 (by omega) (by rw [if_neg h2])
      subst hre
      have har : acR q rows = (elx rows q.2.2) := if_neg (by rw [hq1]; decide)
      refine lv_istore_n hx hb d_SE_oneIn_51 rfl hl (by decide) rfl (fun ls hl => ?_)
      replace hl : lv_has ls 4 [(3, .int (oI (elx rows q.2.2))), (2, .int (iI q.2.2)), (0, .ref o), (1, .ref a)] := hl
      refine lv_iload_n hx hb d_SE_oneIn_52 rfl (lv_at hl 0 rfl) ?_
      refine lv_if_ge (tgt := 60) hx hb d_SE_oneIn_53 rfl (fun h3 => ?_) (fun h3 => ?_)
      · obtain ⟨t8, ht1, ht2⟩ := oI_some (Int32.not_lt.mpr h3)
        have hlt : t8 < xs.length := by have := acR_lt (har.trans ht1); omega
        have hvt := hvl t8 hlt
        obtain ⟨kd0, tx0, nu0, nm0, pa0, dp0, cn0, hc0, hn0⟩ := hvt.cellN
        refine lv_aload_n hx hb d_SE_oneIn_60 rfl (lv_at hl 3 rfl) ?_
        obtain ⟨qz28, hz28⟩ := List.getElem?_of_mem (List.mem_append_right [] (hsub _ hc))
        refine va_get (D := (dC, dI)) (ci := 3) (v := .ref pa) (C := R_VA) (T := T_VA) (N := 7) hx hb htb in_VA hown hK hP qz28 hz28 rfl 4 (by decide) (htb _ m_398) (fun _ h9 => h9) rfl d_SE_oneIn_61 ?_
        refine lv_iload_n hx hb d_SE_oneIn_64 rfl (lv_at hl 0 rfl) ?_
        refine W.eq (congrArg (fun z => F0 m 65 ls (.int z :: [.ref pa])) (ht2 : (oI (elx rows q.2.2)) = nI t8)) ?_
        have hPc : va_P (dC, dI) vwCl ([] ++ fz) _ := zz_tlP (pre := []) (tl := fz) hP
        have hKc := hK.sub (tys' := [(cO, .object "java/lang/Object")]) [1] rfl
        refine va_csq (W.runV (As := [.int (nI t8)]) (rest := []) ⟨hx, hb, hml, hown, htb⟩ (z_AL_get l dC dI pa xs cO em t8 fz hal8 hlt) (cwV 1 htb (g_V (fun _ h => h) m_490 m_1024 m_488 m_489 m_8) rfl rfl rfl (by decide +kernel) ⟨Nat.le_of_ble_eq_true rfl, Nat.le_of_ble_eq_true rfl⟩) ⟨fun a U g mk q => by obtain ⟨q0, qP, qK⟩ := q; exact ⟨q0, qP, va_K.moved (u := U) (U := U.calling g mk a) (Vm.Alike.refl U.vm) qK⟩, (hal8).recv hK hP (fun q hq => List.mem_append_right _ hq), fun U hU hW => ⟨rfl, by rw [hU]; exact hPc, va_K.moved hW.alike hKc⟩⟩ rfl rfl hl.1 rfl (lv_room (Nat.le_of_ble_eq_true rfl)) d_SE_oneIn_65 ⟨Nat.le_of_ble_eq_true rfl, Nat.le_of_ble_eq_true rfl⟩) (fun r29 hw30 => ?_)
        replace hw30 : r29 = some (xs.getD t8 0) := hw30
        clear hPc hKc
        obtain rfl := hw30
        refine W.eq (g2 := F0 m 68 ls [.ref (xs.getD t8 0)]) rfl ?_
        refine va_castY (C := "PatchStore$Value") hx hb hown (htb _ m_1025) (nw_14 hE) (zz_recv hK hP (ci := 3) rfl (List.mem_append_right _ (hsub _ hc0))) d_SE_oneIn_68 ?_
        have hP9 := zz_pickP (pre := []) (fz := fz) (wc := []) hP [] rfl
        have hD9 := zz_pickD (pre := []) (fz := fz) (wc := []) hD [] (by decide) rfl
        have hK9 := hK.sub (tys' := [(cB, .byte), (cO, .object "java/lang/Object")]) [0, 1] rfl
        rw [hQ]
        refine W.widen (k := 0) (n := 0) (Nat.le_of_ble_eq_true rfl) (Nat.le_of_ble_eq_true rfl) ?_
        exact W.aret (v := .ref (xs.getD t8 0)) hx hb hr (Or.inl ⟨_, rfl⟩) (Or.inr ⟨_, rfl⟩) (fun t ht hW => ⟨⟨(some (xs.getD t8 0)), (), rfl, Or.inr ⟨t8, _, _, rfl, har.trans ht1, acR_lt (har.trans ht1), hvt⟩, ⟨by rw [ht]; exact hP9, va_K.moved hW.alike hK9, hD9⟩⟩, hS.F ht⟩) hS.2.2 d_SE_oneIn_71
      · have hno : (elx rows q.2.2) = none := oI_none (Int32.not_le.mp h3) (fun t h => by have := acR_lt (har.trans h); omega)
        refine lv_null hx hb d_SE_oneIn_56 ?_
        refine lv_goto (tgt := 71) hx hb d_SE_oneIn_57 rfl ?_
        have hP9 := zz_pickP (pre := []) (fz := fz) (wc := []) hP [] rfl
        have hD9 := zz_pickD (pre := []) (fz := fz) (wc := []) hD [] (by decide) rfl
        have hK9 := hK.sub (tys' := [(cB, .byte), (cO, .object "java/lang/Object")]) [0, 1] rfl
        rw [hQ]
        refine W.widen (k := 0) (n := 0) (Nat.le_of_ble_eq_true rfl) (Nat.le_of_ble_eq_true rfl) ?_
        exact W.aret (v := .null) hx hb hr (Or.inl ⟨_, rfl⟩) (Or.inl rfl) (fun t ht hW => ⟨⟨none, (), rfl, Or.inl ⟨rfl, har.trans hno⟩, ⟨by rw [ht]; exact hP9, va_K.moved hW.alike hK9, hD9⟩⟩, hS.F ht⟩) hS.2.2 d_SE_oneIn_71
    · have h2 : q.2.2 < 0 := (iI_lt0 (by omega) (by omega)).mp (Int32.not_le.mp h2)
      refine lv_aload_n hx hb d_SE_oneIn_7 rfl (lv_at hl 0 rfl) ?_
      obtain ⟨qz22, hz22⟩ := List.getElem?_of_mem (List.mem_append_right [] (hsub _ hs1))
      refine va_get (D := (dC, dI)) (ci := 10) (v := .int (iI q.2.2)) (C := R_SE) (T := T_SE) (N := 6) hx hb htb in_SE hown hK hP qz22 hz22 rfl 2 (by decide) (htb _ m_901) (fun _ h9 => h9) rfl d_SE_oneIn_8 ?_
      refine lv_aload_n hx hb d_SE_oneIn_11 rfl (lv_at hl 1 rfl) ?_
      obtain ⟨qz23, hz23⟩ := List.getElem?_of_mem (List.mem_append_right [] (hsub _ hc))
      refine va_get (D := (dC, dI)) (ci := 3) (v := .ref pa) (C := R_VA) (T := T_VA) (N := 7) hx hb htb in_VA hown hK hP qz23 hz23 rfl 4 (by decide) (htb _ m_398) (fun _ h9 => h9) rfl d_SE_oneIn_12 ?_
      have hPc : va_P (dC, dI) vwCl ([] ++ fz) _ := zz_tlP (pre := []) (tl := fz) hP
      have hKc := hK.sub (tys' := []) [] rfl
      refine vp_callSi (W.runV (As := []) (rest := [.int (iI q.2.2)]) ⟨hx, hb, hml, hown, htb⟩ (z_AL_size l dC dI pa xs cO em fz hal8) (cwV 0 htb (g_V (fun _ h => h) m_486 m_1018 m_484 m_485 m_8) rfl rfl rfl (by decide +kernel) ⟨Nat.le_of_ble_eq_true rfl, Nat.le_of_ble_eq_true rfl⟩) ⟨fun a U g mk q => by obtain ⟨q0, qP, qK⟩ := q; exact ⟨q0, qP, va_K.moved (u := U) (U := U.calling g mk a) (Vm.Alike.refl U.vm) qK⟩, (hal8).recv hK hP (fun q hq => List.mem_append_right _ hq), fun U hU hW => ⟨rfl, by rw [hU]; exact hPc, va_K.moved hW.alike hKc⟩⟩ rfl rfl hl.1 rfl (lv_room (Nat.le_of_ble_eq_true rfl)) d_SE_oneIn_15 ⟨Nat.le_of_ble_eq_true rfl, Nat.le_of_ble_eq_true rfl⟩) (fun r24 hw25 => ?_)
      replace hw25 : r24 = nI xs.length := hw25
      clear hPc hKc
      obtain rfl := hw25
      refine lv_iadd hx hb d_SE_oneIn_18 ?_
      refine W.eq (congrArg (fun z => F0 m 19 ls (.int z :: [])) (by rw [← iI_nat, iI_add] : ((iI q.2.2) + (nI xs.length)) = iI (q.2.2 + (xs.length : Int)))) ?_
      refine lv_goto (tgt := 26) hx hb d_SE_oneIn_19 rfl ?_
      refine lv_istore_n hx hb d_SE_oneIn_26 rfl hl (by decide) rfl (fun ls hl => ?_)
      replace hl : lv_has ls 4 [(2, .int (iI (q.2.2 + (xs.length : Int)))), (0, .ref o), (1, .ref a)] := hl
      refine lv_aload_n hx hb d_SE_oneIn_27 rfl (lv_at hl 1 rfl) ?_
      obtain ⟨qz26, hz26⟩ := List.getElem?_of_mem (List.mem_append_right [] (hsub _ hs1))
      refine va_get (D := (dC, dI)) (ci := 10) (v := .int 2) (C := R_SE) (T := T_SE) (N := 6) hx hb htb in_SE hown hK hP qz26 hz26 rfl 0 (by decide) (htb _ m_899) (fun _ h9 => h9) rfl d_SE_oneIn_28 ?_
      refine lv_iconst (v := 1) hx hb d_SE_oneIn_31 (by decide) ?_
      refine lv_icmp_ne (tgt := 46) hx hb d_SE_oneIn_32 rfl (fun _ => ?_) (fun h9 => absurd h9 (by decide))
      refine lv_aload_n hx hb d_SE_oneIn_46 rfl (lv_at hl 2 rfl) ?_
      refine lv_iload_n hx hb d_SE_oneIn_47 rfl (lv_at hl 0 rfl) ?_
      have hPc := zz_pickP (pre := []) (fz := fz) (wc := []) hP [] rfl
      have hDc := zz_pickD (pre := []) (fz := fz) (wc := []) hD [] (by decide) rfl
      have hFc := zz_free (pre := []) (fz := fz) (wc := []) hD hS hA [] rfl
      have hKc := hK.sub (tys' := [(cB, .byte), (cO, .object "java/lang/Object")]) [0, 1] rfl
      refine va_calli (va_runV (As := [.int (iI (q.2.2 + (xs.length : Int)))]) (rest := []) ⟨hx, hb, hml, hown, htb⟩ (k_VA_placeOfElement l dC dI _ a d nn rows (iI (q.2.2 + (xs.length : Int))) cB cO em aK aV fz hv8) (cwV 1 htb (g_V (fun _ h => h) m_796 m_1039 m_794 m_795 m_18) rfl rfl rfl (by decide +kernel) ⟨Nat.le_of_ble_eq_true rfl, Nat.le_of_ble_eq_true rfl⟩) ⟨fun a U g mk q => by obtain ⟨q0, q1, qP, qK, qD, z0⟩ := q; exact ⟨q0, q1, qP, va_K.moved (u := U) (U := U.calling g mk a) (Vm.Alike.refl U.vm) qK, qD, EX.same (U := U) (U' := U.calling g mk a) rfl z0⟩, zz_recv hK hP (ci := 3) rfl (List.mem_append_right _ (hsub _ hc)), fun U hU hW => ⟨rfl, by rw [hU], by rw [hU]; exact hPc, va_K.moved hW.alike hKc, hDc.weaken (fun _ _ _ _ => trivial), by rw [hU]; exact EX.warm hW ((hE.kept (fun a h1 h2 => hS.2.1 a h1 h2)).narrow hFc)⟩⟩ rfl rfl hl.1 rfl (lv_room (Nat.le_of_ble_eq_true rfl)) d_SE_oneIn_48 ⟨Nat.le_of_ble_eq_true rfl, Nat.le_of_ble_eq_true rfl⟩) hS (fun q _ h => hFc q h) hFc (fun r28 u27 t H1 locs ht hvm hw29 hB hz1 hk1 hS => ?_)
      obtain ⟨hP1, hK1, hD1⟩ := hB
      rw [ht] at hP1
      have hK1 := va_K.moved hvm.symm hK1
      replace hw29 : r28 = if hdK rows = 5 ∧ ¬ (iI (q.2.2 + (xs.length : Int))) < 0 ∧ (iI (q.2.2 + (xs.length : Int))).toNatClampNeg < (ksR rows).length then (iI (q.2.2 + (xs.length : Int))) else -1 := hw29
      obtain ⟨hP, hD⟩ := zz_join (pre := []) (fz := fz) (wc := []) (wr := []) (w1 := ([] ++ fz)) hP hD [] [] rfl rfl (by decide) (by decide) hk1 hFc hP1 hD1
      have hK := (hK.sub (tys' := []) [] rfl).app hK1
      generalize H1 = H at hP hS ⊢
      replace hP : va_P (dC, dI) vwCl ([] ++ fz) H := hP
      replace hD : va_D A ([] ++ fz) := hD
      replace hK : va_K (dC, dI) vwCl [(cB, .byte), (cO, .object "java/lang/Object")] s := hK
      clear hPc hDc hFc hKc hP1 hD1 hK1 hk1 hz1 ht hvm
      have hre : r28 = oI (elx rows q.2.2) := by rw [hw29]; exact elx_oI hq2 hq3 (by omega) (by rw [if_pos h2, hrl])
      subst hre
      have har : acR q rows = (elx rows q.2.2) := if_neg (by rw [hq1]; decide)
      refine lv_istore_n hx hb d_SE_oneIn_51 rfl hl (by decide) rfl (fun ls hl => ?_)
      replace hl : lv_has ls 4 [(3, .int (oI (elx rows q.2.2))), (2, .int (iI (q.2.2 + (xs.length : Int)))), (0, .ref o), (1, .ref a)] := hl
      refine lv_iload_n hx hb d_SE_oneIn_52 rfl (lv_at hl 0 rfl) ?_
      refine lv_if_ge (tgt := 60) hx hb d_SE_oneIn_53 rfl (fun h3 => ?_) (fun h3 => ?_)
      · obtain ⟨t8, ht1, ht2⟩ := oI_some (Int32.not_lt.mpr h3)
        have hlt : t8 < xs.length := by have := acR_lt (har.trans ht1); omega
        have hvt := hvl t8 hlt
        obtain ⟨kd0, tx0, nu0, nm0, pa0, dp0, cn0, hc0, hn0⟩ := hvt.cellN
        refine lv_aload_n hx hb d_SE_oneIn_60 rfl (lv_at hl 3 rfl) ?_
        obtain ⟨qz31, hz31⟩ := List.getElem?_of_mem (List.mem_append_right [] (hsub _ hc))
        refine va_get (D := (dC, dI)) (ci := 3) (v := .ref pa) (C := R_VA) (T := T_VA) (N := 7) hx hb htb in_VA hown hK hP qz31 hz31 rfl 4 (by decide) (htb _ m_398) (fun _ h9 => h9) rfl d_SE_oneIn_61 ?_
        refine lv_iload_n hx hb d_SE_oneIn_64 rfl (lv_at hl 0 rfl) ?_
        refine W.eq (congrArg (fun z => F0 m 65 ls (.int z :: [.ref pa])) (ht2 : (oI (elx rows q.2.2)) = nI t8)) ?_
        have hPc : va_P (dC, dI) vwCl ([] ++ fz) _ := zz_tlP (pre := []) (tl := fz) hP
        have hKc := hK.sub (tys' := [(cO, .object "java/lang/Object")]) [1] rfl
        refine va_csq (W.runV (As := [.int (nI t8)]) (rest := []) ⟨hx, hb, hml, hown, htb⟩ (z_AL_get l dC dI pa xs cO em t8 fz hal8 hlt) (cwV 1 htb (g_V (fun _ h => h) m_490 m_1024 m_488 m_489 m_8) rfl rfl rfl (by decide +kernel) ⟨Nat.le_of_ble_eq_true rfl, Nat.le_of_ble_eq_true rfl⟩) ⟨fun a U g mk q => by obtain ⟨q0, qP, qK⟩ := q; exact ⟨q0, qP, va_K.moved (u := U) (U := U.calling g mk a) (Vm.Alike.refl U.vm) qK⟩, (hal8).recv hK hP (fun q hq => List.mem_append_right _ hq), fun U hU hW => ⟨rfl, by rw [hU]; exact hPc, va_K.moved hW.alike hKc⟩⟩ rfl rfl hl.1 rfl (lv_room (Nat.le_of_ble_eq_true rfl)) d_SE_oneIn_65 ⟨Nat.le_of_ble_eq_true rfl, Nat.le_of_ble_eq_true rfl⟩) (fun r32 hw33 => ?_)
        replace hw33 : r32 = some (xs.getD t8 0) := hw33
        clear hPc hKc
        obtain rfl := hw33
        refine W.eq (g2 := F0 m 68 ls [.ref (xs.getD t8 0)]) rfl ?_
        refine va_castY (C := "PatchStore$Value") hx hb hown (htb _ m_1025) (nw_14 hE) (zz_recv hK hP (ci := 3) rfl (List.mem_append_right _ (hsub _ hc0))) d_SE_oneIn_68 ?_
        have hP9 := zz_pickP (pre := []) (fz := fz) (wc := []) hP [] rfl
        have hD9 := zz_pickD (pre := []) (fz := fz) (wc := []) hD [] (by decide) rfl
        have hK9 := hK.sub (tys' := [(cB, .byte), (cO, .object "java/lang/Object")]) [0, 1] rfl
        rw [hQ]
        refine W.widen (k := 0) (n := 0) (Nat.le_of_ble_eq_true rfl) (Nat.le_of_ble_eq_true rfl) ?_
        exact W.aret (v := .ref (xs.getD t8 0)) hx hb hr (Or.inl ⟨_, rfl⟩) (Or.inr ⟨_, rfl⟩) (fun t ht hW => ⟨⟨(some (xs.getD t8 0)), (), rfl, Or.inr ⟨t8, _, _, rfl, har.trans ht1, acR_lt (har.trans ht1), hvt⟩, ⟨by rw [ht]; exact hP9, va_K.moved hW.alike hK9, hD9⟩⟩, hS.F ht⟩) hS.2.2 d_SE_oneIn_71
      · have hno : (elx rows q.2.2) = none := oI_none (Int32.not_le.mp h3) (fun t h => by have := acR_lt (har.trans h); omega)
        refine lv_null hx hb d_SE_oneIn_56 ?_
        refine lv_goto (tgt := 71) hx hb d_SE_oneIn_57 rfl ?_
        have hP9 := zz_pickP (pre := []) (fz := fz) (wc := []) hP [] rfl
        have hD9 := zz_pickD (pre := []) (fz := fz) (wc := []) hD [] (by decide) rfl
        have hK9 := hK.sub (tys' := [(cB, .byte), (cO, .object "java/lang/Object")]) [0, 1] rfl
        rw [hQ]
        refine W.widen (k := 0) (n := 0) (Nat.le_of_ble_eq_true rfl) (Nat.le_of_ble_eq_true rfl) ?_
        exact W.aret (v := .null) hx hb hr (Or.inl ⟨_, rfl⟩) (Or.inl rfl) (fun t ht hW => ⟨⟨none, (), rfl, Or.inl ⟨rfl, har.trans hno⟩, ⟨by rw [ht]; exact hP9, va_K.moved hW.alike hK9, hD9⟩⟩, hS.F ht⟩) hS.2.2 d_SE_oneIn_71
set_option maxHeartbeats 1000000 in
set_option maxRecDepth 100000 in
/-- textLess(a, b) -/
theorem k_VA_textLess (l : Launch) (dC : Nat → ClassId) (dI : Nat → Nat → Nat) (sz : Nat) (ta : Nat) (tb : Nat) (sa : List Nat) (sb : List Nat) (cB : ClassId) (em : Nat) (aK : Nat → Nat) (aV : Nat → Nat) (fz : va_W) (h1t : TX cB aK fz ta sa) (h2t : TX cB aK fz tb sb) : Met l y_VA_textLess ws_VA_textLess ({ frames := 4, cells := 0, slots := 0, locals := 85 }) (va_Pc [.ref ta, .ref tb] (fun U => U.heap.size = sz ∧ va_P (dC, dI) vwCl ([] ++ fz) U.heap ∧ va_K (dC, dI) vwCl [(cB, .byte)] U ∧ va_D (fun _ => True) ([] ++ fz) ∧ EX em aK aV (va_A ([] ++ fz) sz) U U.heap)) (va_Qi (fun (r : Int32) (u : Unit) => r = bI (ltT sa sb)) (fun u t => va_P (dC, dI) vwCl ([] ++ fz) t.heap ∧ va_K (dC, dI) vwCl [(cB, .byte)] t ∧ va_D (va_A ([] ++ fz) sz) ([] ++ fz)) (va_A ([] ++ fz) sz)) 0 0 (va_A ([] ++ fz) sz) := by
  refine Met.ofW (cc := c_VA_textLess) (maxL := 4) (ret := (some .boolean)) (by decide) rfl ?_
  intro p e s m args below meth c s₁ B hml hv
  obtain ⟨hargs, hsz, hP, hK, hD0, hE⟩ := hv
  rw [show entryFrame m args 4 = entryFrame m ([.ref ta, .ref tb]).toArray 4 by rw [hargs]]
  have hx := B.exec
  have hb := B.bytes
  have hr := B.returns
  have hts := atoms_spec (ws := ws_VA_textLess) B.pre
  have htb := fun w (h : w ∈ TBL) => hts w (List.mem_cons_of_mem _ h)
  have hown : s.vm.findClass R_VA = some m.cls := findClass_of_methodNamed B.named
  have hlocks := B.notSynchronized
  subst hsz
  have hD := hD0.self (sz := s.heap.size)
  generalize hAe : va_A ([] ++ fz) s.heap.size = A at hD hE ⊢
  have hA : ∀ q : Nat, s.heap.size ≤ q → A q := fun q h => by rw [← hAe]; exact Or.inr h
  have hS : va_S A s.heap s.heap [] := va_S.rf
  have hP : va_P (dC, dI) vwCl ([] ++ fz) s.heap := hP
  have hl := lv_entry ([.ref ta, .ref tb]) (n := 4) (Nat.le_of_ble_eq_true rfl)
  rw [lg_entry_eq]
  generalize (lg_sl ([.ref ta, .ref tb]) ++ List.replicate (4 - (lg_sl ([.ref ta, .ref tb])).length) Slot.unset).toArray = ls at hl ⊢
  replace hl : lv_has ls 4 [(0, .ref ta), (1, .ref tb)] := hl
  refine zz_nQ (fun Q hQ => ?_)
  obtain ⟨v_a, hSV_a⟩ := h1t.sv htb hE (fun q h1 h2 => hS.2.1 q h1 h2) hK hP (fun q hq => List.mem_append_right _ hq) 0 rfl
  obtain ⟨v_b, hSV_b⟩ := h2t.sv htb hE (fun q h1 h2 => hS.2.1 q h1 h2) hK hP (fun q hq => List.mem_append_right _ hq) 0 rfl
  have hla : sa.length < 65536 := hSV_a.2.2.2.2.2
  have hlb : sb.length < 65536 := hSV_b.2.2.2.2.2
  have hca : ∀ c ∈ sa, c < 128 := hSV_a.2.2.2.2.1
  have hcb : ∀ c ∈ sb, c < 128 := hSV_b.2.2.2.2.1
  refine lv_aload_n hx hb d_VA_textLess_0 rfl (lv_at hl 0 rfl) ?_
  have hPc : va_P (dC, dI) vwCl [] _ := hP.sub (ws' := []) [] rfl
  have hKc := hK.sub (tys' := []) [] rfl
  refine vp_callSi (W.runV (As := []) (rest := []) ⟨hx, hb, hml, hown, htb⟩ (q_ST_length l dC dI ta v_a sa em aK aV A ) (cwV 0 htb (g_V (fun _ h => h) m_452 m_1047 m_450 m_451 m_4) rfl rfl rfl (by decide +kernel) ⟨Nat.le_of_ble_eq_true rfl, Nat.le_of_ble_eq_true rfl⟩) ⟨fun a U g mk q => by obtain ⟨q0, qP, qK, z0, z1⟩ := q; exact ⟨q0, qP, va_K.moved (u := U) (U := U.calling g mk a) (Vm.Alike.refl U.vm) qK, EX.same (U := U) (U' := U.calling g mk a) rfl z0, SV.moved (Vm.Alike.refl U.vm) z1⟩, hSV_a.recv, fun U hU hW => ⟨rfl, by rw [hU]; exact hPc, va_K.moved hW.alike hKc, by rw [hU]; exact EX.warm hW (hE.kept (fun a h1 h2 => hS.2.1 a h1 h2)), by rw [hU]; exact SV.moved hW.alike hSV_a⟩⟩ rfl rfl hl.1 rfl (lv_room (Nat.le_of_ble_eq_true rfl)) d_VA_textLess_1 ⟨Nat.le_of_ble_eq_true rfl, Nat.le_of_ble_eq_true rfl⟩) (fun r21 hw22 => ?_)
  replace hw22 : r21 = nI sa.length := hw22
  clear hPc hKc
  obtain rfl := hw22
  refine lv_aload_n hx hb d_VA_textLess_4 rfl (lv_at hl 1 rfl) ?_
  have hPc : va_P (dC, dI) vwCl [] _ := hP.sub (ws' := []) [] rfl
  have hKc := hK.sub (tys' := []) [] rfl
  refine vp_callSi (W.runV (As := []) (rest := [.int (nI sa.length)]) ⟨hx, hb, hml, hown, htb⟩ (q_ST_length l dC dI tb v_b sb em aK aV A ) (cwV 0 htb (g_V (fun _ h => h) m_452 m_1047 m_450 m_451 m_4) rfl rfl rfl (by decide +kernel) ⟨Nat.le_of_ble_eq_true rfl, Nat.le_of_ble_eq_true rfl⟩) ⟨fun a U g mk q => by obtain ⟨q0, qP, qK, z0, z1⟩ := q; exact ⟨q0, qP, va_K.moved (u := U) (U := U.calling g mk a) (Vm.Alike.refl U.vm) qK, EX.same (U := U) (U' := U.calling g mk a) rfl z0, SV.moved (Vm.Alike.refl U.vm) z1⟩, hSV_b.recv, fun U hU hW => ⟨rfl, by rw [hU]; exact hPc, va_K.moved hW.alike hKc, by rw [hU]; exact EX.warm hW (hE.kept (fun a h1 h2 => hS.2.1 a h1 h2)), by rw [hU]; exact SV.moved hW.alike hSV_b⟩⟩ rfl rfl hl.1 rfl (lv_room (Nat.le_of_ble_eq_true rfl)) d_VA_textLess_5 ⟨Nat.le_of_ble_eq_true rfl, Nat.le_of_ble_eq_true rfl⟩) (fun r23 hw24 => ?_)
  replace hw24 : r23 = nI sb.length := hw24
  clear hPc hKc
  obtain rfl := hw24
  refine va_mmin hx hb (hml.trans hl.1.symm) hown (htb _ m_1048) (htb _ m_230) (htb _ m_13) (htb _ m_231) (Nat.le_of_ble_eq_true rfl) (Nat.le_of_ble_eq_true rfl) (Nat.le_of_ble_eq_true rfl) (Nat.le_of_ble_eq_true rfl) d_VA_textLess_8 ?_
  refine W.eq (congrArg (fun z => F0 m 11 ls (.int z :: [])) (mm_min (by omega) (by omega) : (if (nI sb.length) < (nI sa.length) then (nI sb.length) else (nI sa.length)) = nI (Nat.min sa.length sb.length))) ?_
  have hmin : Nat.min sa.length sb.length = sa.length ∨ Nat.min sa.length sb.length = sb.length := by rcases Nat.le_total sa.length sb.length with h | h; exact Or.inl (Nat.min_eq_left h); exact Or.inr (Nat.min_eq_right h)
  have hm1 : Nat.min sa.length sb.length ≤ sa.length := Nat.min_le_left _ _
  have hm2 : Nat.min sa.length sb.length ≤ sb.length := Nat.min_le_right _ _
  generalize Nat.min sa.length sb.length = mn at hmin hm1 hm2 ⊢
  refine lv_istore_n hx hb d_VA_textLess_11 rfl hl (by decide) rfl (fun ls hl => ?_)
  replace hl : lv_has ls 4 [(2, .int (nI mn)), (0, .ref ta), (1, .ref tb)] := hl
  refine lv_iconst (v := 0) hx hb d_VA_textLess_12 (by decide) ?_
  refine lv_istore_n hx hb d_VA_textLess_13 rfl hl (by decide) rfl (fun ls hl => ?_)
  replace hl : lv_has ls 4 [(3, .int 0), (2, .int (nI mn)), (0, .ref ta), (1, .ref tb)] := hl
  replace hl : lv_has ls 4 [(3, .int (nI 0)), (2, .int (nI mn)), (0, .ref ta), (1, .ref tb)] := hl
  have hloop : ∀ (k9 : Nat) (i : Nat) (H : Heap) (locs : List Loc) (ls : Array Slot), mn - i = k9 → (i ≤ mn) → (∀ j, j < i → sa.getD j 0 = sb.getD j 0) → lv_has ls 4 [(3, .int (nI i)), (2, .int (nI mn)), (1, .ref tb), (0, .ref ta)] → va_P (dC, dI) vwCl ([] ++ fz) H → va_D A ([] ++ fz) → va_S A s.heap H locs → W p l e (headSpec ws_VA_textLess ({ frames := 4, cells := 0, slots := 0, locals := 85 })).room s m args below meth c H locs 0 0 Q (F0 m 14 ls []) := by
    intro k9
    induction k9 using Nat.strongRecOn with
    | ind k9 ih =>
      intro i H locs ls hk9 hin heq hl hP hD hS
      refine lv_iload_n hx hb d_VA_textLess_14 rfl (lv_at hl 0 rfl) ?_
      refine lv_iload_n hx hb d_VA_textLess_15 rfl (lv_at hl 1 rfl) ?_
      refine lv_icmp_ge (tgt := 57) hx hb d_VA_textLess_16 rfl (fun h1 => ?_) (fun h1 => ?_)
      · have h1 : mn ≤ i := (nI_leI (by omega) (by omega)).mp h1
        have him : i = mn := by omega
        have hlt := ltT_end (a := sa) (b := sb) (n := i) (by omega) (by omega) (by rw [him]; exact hmin) heq
        refine lv_aload_n hx hb d_VA_textLess_57 rfl (lv_at hl 3 rfl) ?_
        obtain ⟨v_a, hSV_a⟩ := h1t.sv htb hE (fun q h1 h2 => hS.2.1 q h1 h2) hK hP (fun q hq => List.mem_append_right _ hq) 0 rfl
        obtain ⟨v_b, hSV_b⟩ := h2t.sv htb hE (fun q h1 h2 => hS.2.1 q h1 h2) hK hP (fun q hq => List.mem_append_right _ hq) 0 rfl
        have hPc : va_P (dC, dI) vwCl [] _ := hP.sub (ws' := []) [] rfl
        have hKc := hK.sub (tys' := []) [] rfl
        refine vp_callSi (W.runV (As := []) (rest := []) ⟨hx, hb, hml, hown, htb⟩ (q_ST_length l dC dI ta v_a sa em aK aV A ) (cwV 0 htb (g_V (fun _ h => h) m_452 m_1047 m_450 m_451 m_4) rfl rfl rfl (by decide +kernel) ⟨Nat.le_of_ble_eq_true rfl, Nat.le_of_ble_eq_true rfl⟩) ⟨fun a U g mk q => by obtain ⟨q0, qP, qK, z0, z1⟩ := q; exact ⟨q0, qP, va_K.moved (u := U) (U := U.calling g mk a) (Vm.Alike.refl U.vm) qK, EX.same (U := U) (U' := U.calling g mk a) rfl z0, SV.moved (Vm.Alike.refl U.vm) z1⟩, hSV_a.recv, fun U hU hW => ⟨rfl, by rw [hU]; exact hPc, va_K.moved hW.alike hKc, by rw [hU]; exact EX.warm hW (hE.kept (fun a h1 h2 => hS.2.1 a h1 h2)), by rw [hU]; exact SV.moved hW.alike hSV_a⟩⟩ rfl rfl hl.1 rfl (lv_room (Nat.le_of_ble_eq_true rfl)) d_VA_textLess_58 ⟨Nat.le_of_ble_eq_true rfl, Nat.le_of_ble_eq_true rfl⟩) (fun r25 hw26 => ?_)
        replace hw26 : r25 = nI sa.length := hw26
        clear hPc hKc
        obtain rfl := hw26
        refine lv_aload_n hx hb d_VA_textLess_61 rfl (lv_at hl 2 rfl) ?_
        have hPc : va_P (dC, dI) vwCl [] _ := hP.sub (ws' := []) [] rfl
        have hKc := hK.sub (tys' := []) [] rfl
        refine vp_callSi (W.runV (As := []) (rest := [.int (nI sa.length)]) ⟨hx, hb, hml, hown, htb⟩ (q_ST_length l dC dI tb v_b sb em aK aV A ) (cwV 0 htb (g_V (fun _ h => h) m_452 m_1047 m_450 m_451 m_4) rfl rfl rfl (by decide +kernel) ⟨Nat.le_of_ble_eq_true rfl, Nat.le_of_ble_eq_true rfl⟩) ⟨fun a U g mk q => by obtain ⟨q0, qP, qK, z0, z1⟩ := q; exact ⟨q0, qP, va_K.moved (u := U) (U := U.calling g mk a) (Vm.Alike.refl U.vm) qK, EX.same (U := U) (U' := U.calling g mk a) rfl z0, SV.moved (Vm.Alike.refl U.vm) z1⟩, hSV_b.recv, fun U hU hW => ⟨rfl, by rw [hU]; exact hPc, va_K.moved hW.alike hKc, by rw [hU]; exact EX.warm hW (hE.kept (fun a h1 h2 => hS.2.1 a h1 h2)), by rw [hU]; exact SV.moved hW.alike hSV_b⟩⟩ rfl rfl hl.1 rfl (lv_room (Nat.le_of_ble_eq_true rfl)) d_VA_textLess_62 ⟨Nat.le_of_ble_eq_true rfl, Nat.le_of_ble_eq_true rfl⟩) (fun r27 hw28 => ?_)
        replace hw28 : r27 = nI sb.length := hw28
        clear hPc hKc
        obtain rfl := hw28
        refine lv_icmp_ge (tgt := 72) hx hb d_VA_textLess_65 rfl (fun h2 => ?_) (fun h2 => ?_)
        · have h2 : ¬ sa.length < sb.length := Nat.not_lt.mpr ((nI_leI (by omega) (by omega)).mp h2)
          refine lv_iconst (v := 0) hx hb d_VA_textLess_72 (by decide) ?_
          have hP9 := zz_pickP (pre := []) (fz := fz) (wc := []) hP [] rfl
          have hD9 := zz_pickD (pre := []) (fz := fz) (wc := []) hD [] (by decide) rfl
          have hK9 := hK.sub (tys' := [(cB, .byte)]) [0] rfl
          rw [hQ]
          refine W.widen (k := 0) (n := 0) (Nat.le_of_ble_eq_true rfl) (Nat.le_of_ble_eq_true rfl) ?_
          exact W.zret (v := 0) hx hb hr (by decide) (fun t ht hW => ⟨⟨0, (), rfl, by rw [hlt, decide_eq_false h2]; rfl, ⟨by rw [ht]; exact hP9, va_K.moved hW.alike hK9, hD9⟩⟩, hS.F ht⟩) hS.2.2 d_VA_textLess_73
        · have h2 : sa.length < sb.length := Nat.not_le.mp (fun h => h2 ((nI_leI (by omega) (by omega)).mpr h))
          refine lv_iconst (v := 1) hx hb d_VA_textLess_68 (by decide) ?_
          refine lv_goto (tgt := 73) hx hb d_VA_textLess_69 rfl ?_
          have hP9 := zz_pickP (pre := []) (fz := fz) (wc := []) hP [] rfl
          have hD9 := zz_pickD (pre := []) (fz := fz) (wc := []) hD [] (by decide) rfl
          have hK9 := hK.sub (tys' := [(cB, .byte)]) [0] rfl
          rw [hQ]
          refine W.widen (k := 0) (n := 0) (Nat.le_of_ble_eq_true rfl) (Nat.le_of_ble_eq_true rfl) ?_
          exact W.zret (v := 1) hx hb hr (by decide) (fun t ht hW => ⟨⟨1, (), rfl, by rw [hlt, decide_eq_true h2]; rfl, ⟨by rw [ht]; exact hP9, va_K.moved hW.alike hK9, hD9⟩⟩, hS.F ht⟩) hS.2.2 d_VA_textLess_73
      · have h1 : i < mn := Nat.not_le.mp (fun h => h1 ((nI_leI (by omega) (by omega)).mpr h))
        have hia : i < sa.length := by omega
        have hib : i < sb.length := by omega
        have hxa : sa.getD i 0 < 128 := by rw [List.getD_eq_getElem?_getD, List.getElem?_eq_getElem hia]; exact hca _ (List.getElem_mem hia)
        have hxb : sb.getD i 0 < 128 := by rw [List.getD_eq_getElem?_getD, List.getElem?_eq_getElem hib]; exact hcb _ (List.getElem_mem hib)
        refine lv_aload_n hx hb d_VA_textLess_19 rfl (lv_at hl 3 rfl) ?_
        refine lv_iload_n hx hb d_VA_textLess_20 rfl (lv_at hl 0 rfl) ?_
        obtain ⟨v_a, hSV_a⟩ := h1t.sv htb hE (fun q h1 h2 => hS.2.1 q h1 h2) hK hP (fun q hq => List.mem_append_right _ hq) 0 rfl
        obtain ⟨v_b, hSV_b⟩ := h2t.sv htb hE (fun q h1 h2 => hS.2.1 q h1 h2) hK hP (fun q hq => List.mem_append_right _ hq) 0 rfl
        have hPc : va_P (dC, dI) vwCl [] _ := hP.sub (ws' := []) [] rfl
        have hKc := hK.sub (tys' := []) [] rfl
        refine vp_callSi (W.runV (As := [.int (nI i)]) (rest := []) ⟨hx, hb, hml, hown, htb⟩ (q_ST_charAt l dC dI ta v_a sa em aK aV A i hia) (cwV 1 htb (g_V (fun _ h => h) m_460 m_1049 m_458 m_459 m_4) rfl rfl rfl (by decide +kernel) ⟨Nat.le_of_ble_eq_true rfl, Nat.le_of_ble_eq_true rfl⟩) ⟨fun a U g mk q => by obtain ⟨q0, qP, qK, z0, z1⟩ := q; exact ⟨q0, qP, va_K.moved (u := U) (U := U.calling g mk a) (Vm.Alike.refl U.vm) qK, EX.same (U := U) (U' := U.calling g mk a) rfl z0, SV.moved (Vm.Alike.refl U.vm) z1⟩, hSV_a.recv, fun U hU hW => ⟨rfl, by rw [hU]; exact hPc, va_K.moved hW.alike hKc, by rw [hU]; exact EX.warm hW (hE.kept (fun a h1 h2 => hS.2.1 a h1 h2)), by rw [hU]; exact SV.moved hW.alike hSV_a⟩⟩ rfl rfl hl.1 rfl (lv_room (Nat.le_of_ble_eq_true rfl)) d_VA_textLess_21 ⟨Nat.le_of_ble_eq_true rfl, Nat.le_of_ble_eq_true rfl⟩) (fun r25 hw26 => ?_)
        replace hw26 : r25 = nI (sa.getD i 0) := hw26
        clear hPc hKc
        obtain rfl := hw26
        refine lv_aload_n hx hb d_VA_textLess_24 rfl (lv_at hl 2 rfl) ?_
        refine lv_iload_n hx hb d_VA_textLess_25 rfl (lv_at hl 0 rfl) ?_
        have hPc : va_P (dC, dI) vwCl [] _ := hP.sub (ws' := []) [] rfl
        have hKc := hK.sub (tys' := []) [] rfl
        refine vp_callSi (W.runV (As := [.int (nI i)]) (rest := [.int (nI (sa.getD i 0))]) ⟨hx, hb, hml, hown, htb⟩ (q_ST_charAt l dC dI tb v_b sb em aK aV A i hib) (cwV 1 htb (g_V (fun _ h => h) m_460 m_1049 m_458 m_459 m_4) rfl rfl rfl (by decide +kernel) ⟨Nat.le_of_ble_eq_true rfl, Nat.le_of_ble_eq_true rfl⟩) ⟨fun a U g mk q => by obtain ⟨q0, qP, qK, z0, z1⟩ := q; exact ⟨q0, qP, va_K.moved (u := U) (U := U.calling g mk a) (Vm.Alike.refl U.vm) qK, EX.same (U := U) (U' := U.calling g mk a) rfl z0, SV.moved (Vm.Alike.refl U.vm) z1⟩, hSV_b.recv, fun U hU hW => ⟨rfl, by rw [hU]; exact hPc, va_K.moved hW.alike hKc, by rw [hU]; exact EX.warm hW (hE.kept (fun a h1 h2 => hS.2.1 a h1 h2)), by rw [hU]; exact SV.moved hW.alike hSV_b⟩⟩ rfl rfl hl.1 rfl (lv_room (Nat.le_of_ble_eq_true rfl)) d_VA_textLess_26 ⟨Nat.le_of_ble_eq_true rfl, Nat.le_of_ble_eq_true rfl⟩) (fun r27 hw28 => ?_)
        replace hw28 : r27 = nI (sb.getD i 0) := hw28
        clear hPc hKc
        obtain rfl := hw28
        refine lv_icmp_eq (tgt := 51) hx hb d_VA_textLess_29 rfl (fun h2 => ?_) (fun h2 => ?_)
        · have h2 : sa.getD i 0 = sb.getD i 0 := (nI_eq (by omega) (by omega)).mp h2
          refine lv_iinc (k := 0) (v := ((nI i) + Int32.ofInt 1)) hx hb d_VA_textLess_51 hl rfl rfl (by decide) rfl (fun ls hl => ?_)
          replace hl : lv_has ls 4 [(3, .int ((nI i) + Int32.ofInt 1)), (2, .int (nI mn)), (1, .ref tb), (0, .ref ta)] := hl
          rw [show nI i + Int32.ofInt 1 = nI (i + 1) from nI_1 _] at hl
          replace hl : lv_has ls 4 [(3, .int (nI (i + 1))), (2, .int (nI mn)), (1, .ref tb), (0, .ref ta)] := hl
          refine lv_goto (tgt := 14) hx hb d_VA_textLess_54 rfl ?_
          exact ih (mn - (i + 1)) (by omega) (i + 1) H locs ls rfl (by omega) (fun j hj => by rcases Nat.lt_succ_iff_lt_or_eq.mp hj with h9 | rfl; exact heq j h9; exact h2) (lv_sub hl [0, 1, 2, 3] rfl) (zz_pickP (pre := []) (fz := fz) (wc := []) hP [] rfl) (zz_pickD (pre := []) (fz := fz) (wc := []) hD [] (by decide) rfl) hS
        · have h2 : ¬ sa.getD i 0 = sb.getD i 0 := fun h => h2 (by rw [h])
          have hlt := ltT_ne hia hib heq h2
          refine lv_aload_n hx hb d_VA_textLess_32 rfl (lv_at hl 3 rfl) ?_
          refine lv_iload_n hx hb d_VA_textLess_33 rfl (lv_at hl 0 rfl) ?_
          have hPc : va_P (dC, dI) vwCl [] _ := hP.sub (ws' := []) [] rfl
          have hKc := hK.sub (tys' := []) [] rfl
          refine vp_callSi (W.runV (As := [.int (nI i)]) (rest := []) ⟨hx, hb, hml, hown, htb⟩ (q_ST_charAt l dC dI ta v_a sa em aK aV A i hia) (cwV 1 htb (g_V (fun _ h => h) m_460 m_1049 m_458 m_459 m_4) rfl rfl rfl (by decide +kernel) ⟨Nat.le_of_ble_eq_true rfl, Nat.le_of_ble_eq_true rfl⟩) ⟨fun a U g mk q => by obtain ⟨q0, qP, qK, z0, z1⟩ := q; exact ⟨q0, qP, va_K.moved (u := U) (U := U.calling g mk a) (Vm.Alike.refl U.vm) qK, EX.same (U := U) (U' := U.calling g mk a) rfl z0, SV.moved (Vm.Alike.refl U.vm) z1⟩, hSV_a.recv, fun U hU hW => ⟨rfl, by rw [hU]; exact hPc, va_K.moved hW.alike hKc, by rw [hU]; exact EX.warm hW (hE.kept (fun a h1 h2 => hS.2.1 a h1 h2)), by rw [hU]; exact SV.moved hW.alike hSV_a⟩⟩ rfl rfl hl.1 rfl (lv_room (Nat.le_of_ble_eq_true rfl)) d_VA_textLess_34 ⟨Nat.le_of_ble_eq_true rfl, Nat.le_of_ble_eq_true rfl⟩) (fun r29 hw30 => ?_)
          replace hw30 : r29 = nI (sa.getD i 0) := hw30
          clear hPc hKc
          obtain rfl := hw30
          refine lv_aload_n hx hb d_VA_textLess_37 rfl (lv_at hl 2 rfl) ?_
          refine lv_iload_n hx hb d_VA_textLess_38 rfl (lv_at hl 0 rfl) ?_
          have hPc : va_P (dC, dI) vwCl [] _ := hP.sub (ws' := []) [] rfl
          have hKc := hK.sub (tys' := []) [] rfl
          refine vp_callSi (W.runV (As := [.int (nI i)]) (rest := [.int (nI (sa.getD i 0))]) ⟨hx, hb, hml, hown, htb⟩ (q_ST_charAt l dC dI tb v_b sb em aK aV A i hib) (cwV 1 htb (g_V (fun _ h => h) m_460 m_1049 m_458 m_459 m_4) rfl rfl rfl (by decide +kernel) ⟨Nat.le_of_ble_eq_true rfl, Nat.le_of_ble_eq_true rfl⟩) ⟨fun a U g mk q => by obtain ⟨q0, qP, qK, z0, z1⟩ := q; exact ⟨q0, qP, va_K.moved (u := U) (U := U.calling g mk a) (Vm.Alike.refl U.vm) qK, EX.same (U := U) (U' := U.calling g mk a) rfl z0, SV.moved (Vm.Alike.refl U.vm) z1⟩, hSV_b.recv, fun U hU hW => ⟨rfl, by rw [hU]; exact hPc, va_K.moved hW.alike hKc, by rw [hU]; exact EX.warm hW (hE.kept (fun a h1 h2 => hS.2.1 a h1 h2)), by rw [hU]; exact SV.moved hW.alike hSV_b⟩⟩ rfl rfl hl.1 rfl (lv_room (Nat.le_of_ble_eq_true rfl)) d_VA_textLess_39 ⟨Nat.le_of_ble_eq_true rfl, Nat.le_of_ble_eq_true rfl⟩) (fun r31 hw32 => ?_)
          replace hw32 : r31 = nI (sb.getD i 0) := hw32
          clear hPc hKc
          obtain rfl := hw32
          refine lv_icmp_ge (tgt := 49) hx hb d_VA_textLess_42 rfl (fun h3 => ?_) (fun h3 => ?_)
          · have h3 : ¬ sa.getD i 0 < sb.getD i 0 := Nat.not_lt.mpr ((nI_leI (by omega) (by omega)).mp h3)
            refine lv_iconst (v := 0) hx hb d_VA_textLess_49 (by decide) ?_
            have hP9 := zz_pickP (pre := []) (fz := fz) (wc := []) hP [] rfl
            have hD9 := zz_pickD (pre := []) (fz := fz) (wc := []) hD [] (by decide) rfl
            have hK9 := hK.sub (tys' := [(cB, .byte)]) [0] rfl
            rw [hQ]
            refine W.widen (k := 0) (n := 0) (Nat.le_of_ble_eq_true rfl) (Nat.le_of_ble_eq_true rfl) ?_
            exact W.zret (v := 0) hx hb hr (by decide) (fun t ht hW => ⟨⟨0, (), rfl, by rw [hlt, decide_eq_false h3]; rfl, ⟨by rw [ht]; exact hP9, va_K.moved hW.alike hK9, hD9⟩⟩, hS.F ht⟩) hS.2.2 d_VA_textLess_50
          · have h3 : sa.getD i 0 < sb.getD i 0 := Nat.not_le.mp (fun h => h3 ((nI_leI (by omega) (by omega)).mpr h))
            refine lv_iconst (v := 1) hx hb d_VA_textLess_45 (by decide) ?_
            refine lv_goto (tgt := 50) hx hb d_VA_textLess_46 rfl ?_
            have hP9 := zz_pickP (pre := []) (fz := fz) (wc := []) hP [] rfl
            have hD9 := zz_pickD (pre := []) (fz := fz) (wc := []) hD [] (by decide) rfl
            have hK9 := hK.sub (tys' := [(cB, .byte)]) [0] rfl
            rw [hQ]
            refine W.widen (k := 0) (n := 0) (Nat.le_of_ble_eq_true rfl) (Nat.le_of_ble_eq_true rfl) ?_
            exact W.zret (v := 1) hx hb hr (by decide) (fun t ht hW => ⟨⟨1, (), rfl, by rw [hlt, decide_eq_true h3]; rfl, ⟨by rw [ht]; exact hP9, va_K.moved hW.alike hK9, hD9⟩⟩, hS.F ht⟩) hS.2.2 d_VA_textLess_50
  exact hloop _ 0 _ _ ls rfl (Nat.zero_le _) (fun j hj => absurd hj (Nat.not_lt_zero _)) (lv_sub hl [0, 1, 3, 2] rfl) (zz_pickP (pre := []) (fz := fz) (wc := []) hP [] rfl) (zz_pickD (pre := []) (fz := fz) (wc := []) hD [] (by decide) rfl) hS
set_option maxHeartbeats 1000000 in
set_option maxRecDepth 100000 in
/-- less(a, b) -/
theorem k_VA_less (l : Launch) (dC : Nat → ClassId) (dI : Nat → Nat → Nat) (sz : Nat) (a : Nat) (b : Nat) (da : Nat) (db : Nat) (na : List Nat) (nb : List Nat) (ra : List Row) (rb : List Row) (cB : ClassId) (cO : ClassId) (em : Nat) (aK : Nat → Nat) (aV : Nat → Nat) (fz : va_W) (hva : VT cB cO em aK (da + 1) fz a na ra) (hvb : VT cB cO em aK (db + 1) fz b nb rb) : Met l y_VA_less ws_VA_less ({ frames := 5, cells := 0, slots := 0, locals := 108 }) (va_Pc [.ref a, .ref b] (fun U => U.heap.size = sz ∧ va_P (dC, dI) vwCl ([] ++ fz) U.heap ∧ va_K (dC, dI) vwCl [(cB, .byte), (cO, .object "java/lang/Object")] U ∧ va_D (fun _ => True) ([] ++ fz) ∧ EX em aK aV (va_A ([] ++ fz) sz) U U.heap)) (va_Qi (fun (r : Int32) (u : Unit) => r = bI (lsV ra rb)) (fun u t => va_P (dC, dI) vwCl ([] ++ fz) t.heap ∧ va_K (dC, dI) vwCl [(cB, .byte), (cO, .object "java/lang/Object")] t ∧ va_D (va_A ([] ++ fz) sz) ([] ++ fz)) (va_A ([] ++ fz) sz)) 0 0 (va_A ([] ++ fz) sz) := by
  refine Met.ofW (cc := c_VA_less) (maxL := 2) (ret := (some .boolean)) (by decide) rfl ?_
  intro p e s m args below meth c s₁ B hml hv
  obtain ⟨hargs, hsz, hP, hK, hD0, hE⟩ := hv
  rw [show entryFrame m args 2 = entryFrame m ([.ref a, .ref b]).toArray 2 by rw [hargs]]
  have hx := B.exec
  have hb := B.bytes
  have hr := B.returns
  have hts := atoms_spec (ws := ws_VA_less) B.pre
  have htb := fun w (h : w ∈ TBL) => hts w (List.mem_cons_of_mem _ h)
  have hown : s.vm.findClass R_VA = some m.cls := findClass_of_methodNamed B.named
  have hlocks := B.notSynchronized
  subst hsz
  have hD := hD0.self (sz := s.heap.size)
  generalize hAe : va_A ([] ++ fz) s.heap.size = A at hD hE ⊢
  have hA : ∀ q : Nat, s.heap.size ≤ q → A q := fun q h => by rw [← hAe]; exact Or.inr h
  have hS : va_S A s.heap s.heap [] := va_S.rf
  have hP : va_P (dC, dI) vwCl ([] ++ fz) s.heap := hP
  have hl := lv_entry ([.ref a, .ref b]) (n := 2) (Nat.le_of_ble_eq_true rfl)
  rw [lg_entry_eq]
  generalize (lg_sl ([.ref a, .ref b]) ++ List.replicate (2 - (lg_sl ([.ref a, .ref b])).length) Slot.unset).toArray = ls at hl ⊢
  replace hl : lv_has ls 2 [(0, .ref a), (1, .ref b)] := hl
  refine zz_nQ (fun Q hQ => ?_)
  obtain ⟨kd1, tx1, nu1, nm1, pa1, dp1, cn1, tt1, kk1, num1, rt1, xs1, ns1, hc1, htx1, hnm1, hal1, hhd1, hnl1, hrl1, hkf1, hvl1, hhk1, hns1, hdp1, hcn1, hrw1, h1601⟩ := (id hva : VT cB cO em aK (da + 1) fz a na ra).opn
  obtain ⟨kd2, tx2, nu2, nm2, pa2, dp2, cn2, tt2, kk2, num2, rt2, xs2, ns2, hc2, htx2, hnm2, hal2, hhd2, hnl2, hrl2, hkf2, hvl2, hhk2, hns2, hdp2, hcn2, hrw2, h1602⟩ := (id hvb : VT cB cO em aK (db + 1) fz b nb rb).opn
  obtain ⟨hN1, hT1⟩ := hdN_of hrw1
  obtain ⟨hN2, hT2⟩ := hdN_of hrw2
  refine lv_aload_n hx hb d_VA_less_0 rfl (lv_at hl 0 rfl) ?_
  obtain ⟨qz21, hz21⟩ := List.getElem?_of_mem (List.mem_append_right [] hc1)
  refine va_get (D := (dC, dI)) (ci := 3) (v := .int kd1) (C := R_VA) (T := T_VA) (N := 7) hx hb htb in_VA hown hK hP qz21 hz21 rfl 0 (by decide) (htb _ m_378) (fun _ h9 => h9) rfl d_VA_less_1 ?_
  refine lv_iconst (v := 1) hx hb d_VA_less_4 (by decide) ?_
  refine lv_icmp_ne (tgt := 34) hx hb d_VA_less_5 rfl (fun h1 => ?_) (fun h1 => ?_)
  · have hn : ¬ (hdK ra = 3 ∧ hdK rb = 3) := fun h => h1 (hhd1.num (hhk1.symm.trans h.1)).1
    refine lv_aload_n hx hb d_VA_less_34 rfl (lv_at hl 0 rfl) ?_
    obtain ⟨qz22, hz22⟩ := List.getElem?_of_mem (List.mem_append_right [] hc1)
    refine va_get (D := (dC, dI)) (ci := 3) (v := .int kd1) (C := R_VA) (T := T_VA) (N := 7) hx hb htb in_VA hown hK hP qz22 hz22 rfl 0 (by decide) (htb _ m_378) (fun _ h9 => h9) rfl d_VA_less_35 ?_
    refine lv_iconst (v := 2) hx hb d_VA_less_38 (by decide) ?_
    refine lv_icmp_ne (tgt := 68) hx hb d_VA_less_39 rfl (fun h5 => ?_) (fun h5 => ?_)
    · have h5 : ¬ hdK ra = 4 := fun h => h5 (hhd1.s4 (hhk1.symm.trans h))
      refine lv_iconst (v := 0) hx hb d_VA_less_68 (by decide) ?_
      have hP9 := zz_pickP (pre := []) (fz := fz) (wc := []) hP [] rfl
      have hD9 := zz_pickD (pre := []) (fz := fz) (wc := []) hD [] (by decide) rfl
      have hK9 := hK.sub (tys' := [(cB, .byte), (cO, .object "java/lang/Object")]) [0, 1] rfl
      rw [hQ]
      refine W.widen (k := 0) (n := 0) (Nat.le_of_ble_eq_true rfl) (Nat.le_of_ble_eq_true rfl) ?_
      exact W.zret (v := 0) hx hb hr (by decide) (fun t ht hW => ⟨⟨0, (), rfl, by rw [lsV_n hn (fun h => h5 h.1)]; rfl, ⟨by rw [ht]; exact hP9, va_K.moved hW.alike hK9, hD9⟩⟩, hS.F ht⟩) hS.2.2 d_VA_less_69
    · obtain ⟨hk1, htt1⟩ := hhd1.s2 h5
      refine lv_aload_n hx hb d_VA_less_42 rfl (lv_at hl 1 rfl) ?_
      obtain ⟨qz23, hz23⟩ := List.getElem?_of_mem (List.mem_append_right [] hc2)
      refine va_get (D := (dC, dI)) (ci := 3) (v := .int kd2) (C := R_VA) (T := T_VA) (N := 7) hx hb htb in_VA hown hK hP qz23 hz23 rfl 0 (by decide) (htb _ m_378) (fun _ h9 => h9) rfl d_VA_less_43 ?_
      refine lv_iconst (v := 2) hx hb d_VA_less_46 (by decide) ?_
      refine lv_icmp_ne (tgt := 68) hx hb d_VA_less_47 rfl (fun h6 => ?_) (fun h6 => ?_)
      · have h6 : ¬ hdK rb = 4 := fun h => h6 (hhd2.s4 (hhk2.symm.trans h))
        refine lv_iconst (v := 0) hx hb d_VA_less_68 (by decide) ?_
        have hP9 := zz_pickP (pre := []) (fz := fz) (wc := []) hP [] rfl
        have hD9 := zz_pickD (pre := []) (fz := fz) (wc := []) hD [] (by decide) rfl
        have hK9 := hK.sub (tys' := [(cB, .byte), (cO, .object "java/lang/Object")]) [0, 1] rfl
        rw [hQ]
        refine W.widen (k := 0) (n := 0) (Nat.le_of_ble_eq_true rfl) (Nat.le_of_ble_eq_true rfl) ?_
        exact W.zret (v := 0) hx hb hr (by decide) (fun t ht hW => ⟨⟨0, (), rfl, by rw [lsV_n hn (fun h => h6 h.2)]; rfl, ⟨by rw [ht]; exact hP9, va_K.moved hW.alike hK9, hD9⟩⟩, hS.F ht⟩) hS.2.2 d_VA_less_69
      · obtain ⟨hk2, htt2⟩ := hhd2.s2 h6
        have hls : lsV ra rb = ltT tt1 tt2 := by unfold lsV; rw [if_neg hn, decide_eq_true (hhk1.trans hk1), decide_eq_true (hhk2.trans hk2), hT1, hT2, htt1, htt2]; rfl
        refine lv_aload_n hx hb d_VA_less_50 rfl (lv_at hl 0 rfl) ?_
        obtain ⟨qz24, hz24⟩ := List.getElem?_of_mem (List.mem_append_right [] hc1)
        refine va_get (D := (dC, dI)) (ci := 3) (v := .ref tx1) (C := R_VA) (T := T_VA) (N := 7) hx hb htb in_VA hown hK hP qz24 hz24 rfl 1 (by decide) (htb _ m_384) (fun _ h9 => h9) rfl d_VA_less_51 ?_
        refine lv_aload_n hx hb d_VA_less_54 rfl (lv_at hl 1 rfl) ?_
        obtain ⟨qz25, hz25⟩ := List.getElem?_of_mem (List.mem_append_right [] hc2)
        refine va_get (D := (dC, dI)) (ci := 3) (v := .ref tx2) (C := R_VA) (T := T_VA) (N := 7) hx hb htb in_VA hown hK hP qz25 hz25 rfl 1 (by decide) (htb _ m_384) (fun _ h9 => h9) rfl d_VA_less_55 ?_
        have hPc := zz_pickP (pre := []) (fz := fz) (wc := []) hP [] rfl
        have hDc := zz_pickD (pre := []) (fz := fz) (wc := []) hD [] (by decide) rfl
        have hFc := zz_free (pre := []) (fz := fz) (wc := []) hD hS hA [] rfl
        have hKc := hK.sub (tys' := [(cB, .byte)]) [0] rfl
        refine va_calli (va_runS (As := [.ref tx1, .ref tx2]) (rest := []) ⟨hx, hb, hml, hown, htb⟩ (k_VA_textLess l dC dI _ tx1 tx2 tt1 tt2 cB em aK aV fz htx1 htx2) (va_cwS 2 htb (g_S (fun _ h => h) m_1046 m_1044 m_1045 m_18) rfl rfl rfl (by decide +kernel) ⟨Nat.le_of_ble_eq_true rfl, Nat.le_of_ble_eq_true rfl⟩) ⟨fun a U g mk q => by obtain ⟨q0, q1, qP, qK, qD, z0⟩ := q; exact ⟨q0, q1, qP, va_K.moved (u := U) (U := U.calling g mk a) (Vm.Alike.refl U.vm) qK, qD, EX.same (U := U) (U' := U.calling g mk a) rfl z0⟩, fun U hU hW => ⟨rfl, by rw [hU], by rw [hU]; exact hPc, va_K.moved hW.alike hKc, hDc.weaken (fun _ _ _ _ => trivial), by rw [hU]; exact EX.warm hW ((hE.kept (fun a h1 h2 => hS.2.1 a h1 h2)).narrow hFc)⟩⟩ rfl rfl hl.1 rfl (lv_room (Nat.le_of_ble_eq_true rfl)) d_VA_less_58 ⟨Nat.le_of_ble_eq_true rfl, Nat.le_of_ble_eq_true rfl⟩) hS (fun q _ h => hFc q h) hFc (fun r27 u26 t H1 locs ht hvm hw28 hB hz1 hk1 hS => ?_)
        obtain ⟨hP1, hK1, hD1⟩ := hB
        rw [ht] at hP1
        have hK1 := va_K.moved hvm.symm hK1
        replace hw28 : r27 = bI (ltT tt1 tt2) := hw28
        obtain ⟨hP, hD⟩ := zz_join (pre := []) (fz := fz) (wc := []) (wr := []) (w1 := ([] ++ fz)) hP hD [] [] rfl rfl (by decide) (by decide) hk1 hFc hP1 hD1
        have hK := (hK.sub (tys' := [(cO, .object "java/lang/Object")]) [1] rfl).app hK1
        generalize H1 = H at hP hS ⊢
        replace hP : va_P (dC, dI) vwCl ([] ++ fz) H := hP
        replace hD : va_D A ([] ++ fz) := hD
        replace hK : va_K (dC, dI) vwCl [(cO, .object "java/lang/Object"), (cB, .byte)] s := hK
        clear hPc hDc hFc hKc hP1 hD1 hK1 hk1 hz1 ht hvm
        refine lv_if_eq (tgt := 68) hx hb d_VA_less_61 rfl (fun h7 => ?_) (fun h7 => ?_)
        · have h7 : ltT tt1 tt2 = false := bI_eq.mp (show bI (ltT tt1 tt2) = 0 from hw28 ▸ h7)
          refine lv_iconst (v := 0) hx hb d_VA_less_68 (by decide) ?_
          have hP9 := zz_pickP (pre := []) (fz := fz) (wc := []) hP [] rfl
          have hD9 := zz_pickD (pre := []) (fz := fz) (wc := []) hD [] (by decide) rfl
          have hK9 := hK.sub (tys' := [(cB, .byte), (cO, .object "java/lang/Object")]) [1, 0] rfl
          rw [hQ]
          refine W.widen (k := 0) (n := 0) (Nat.le_of_ble_eq_true rfl) (Nat.le_of_ble_eq_true rfl) ?_
          exact W.zret (v := 0) hx hb hr (by decide) (fun t ht hW => ⟨⟨0, (), rfl, by rw [hls, h7]; rfl, ⟨by rw [ht]; exact hP9, va_K.moved hW.alike hK9, hD9⟩⟩, hS.F ht⟩) hS.2.2 d_VA_less_69
        · have h7 : ltT tt1 tt2 = true := bI_ne.mp (show ¬ bI (ltT tt1 tt2) = 0 from hw28 ▸ h7)
          refine lv_iconst (v := 1) hx hb d_VA_less_64 (by decide) ?_
          refine lv_goto (tgt := 69) hx hb d_VA_less_65 rfl ?_
          have hP9 := zz_pickP (pre := []) (fz := fz) (wc := []) hP [] rfl
          have hD9 := zz_pickD (pre := []) (fz := fz) (wc := []) hD [] (by decide) rfl
          have hK9 := hK.sub (tys' := [(cB, .byte), (cO, .object "java/lang/Object")]) [1, 0] rfl
          rw [hQ]
          refine W.widen (k := 0) (n := 0) (Nat.le_of_ble_eq_true rfl) (Nat.le_of_ble_eq_true rfl) ?_
          exact W.zret (v := 1) hx hb hr (by decide) (fun t ht hW => ⟨⟨1, (), rfl, by rw [hls, h7]; rfl, ⟨by rw [ht]; exact hP9, va_K.moved hW.alike hK9, hD9⟩⟩, hS.F ht⟩) hS.2.2 d_VA_less_69
  · have hk1 := hhd1.n1 h1
    refine lv_aload_n hx hb d_VA_less_8 rfl (lv_at hl 1 rfl) ?_
    obtain ⟨qz22, hz22⟩ := List.getElem?_of_mem (List.mem_append_right [] hc2)
    refine va_get (D := (dC, dI)) (ci := 3) (v := .int kd2) (C := R_VA) (T := T_VA) (N := 7) hx hb htb in_VA hown hK hP qz22 hz22 rfl 0 (by decide) (htb _ m_378) (fun _ h9 => h9) rfl d_VA_less_9 ?_
    refine lv_iconst (v := 1) hx hb d_VA_less_12 (by decide) ?_
    refine lv_icmp_ne (tgt := 34) hx hb d_VA_less_13 rfl (fun h2 => ?_) (fun h2 => ?_)
    · have hn : ¬ (hdK ra = 3 ∧ hdK rb = 3) := fun h => h2 (hhd2.num (hhk2.symm.trans h.2)).1
      refine lv_aload_n hx hb d_VA_less_34 rfl (lv_at hl 0 rfl) ?_
      obtain ⟨qz23, hz23⟩ := List.getElem?_of_mem (List.mem_append_right [] hc1)
      refine va_get (D := (dC, dI)) (ci := 3) (v := .int kd1) (C := R_VA) (T := T_VA) (N := 7) hx hb htb in_VA hown hK hP qz23 hz23 rfl 0 (by decide) (htb _ m_378) (fun _ h9 => h9) rfl d_VA_less_35 ?_
      refine lv_iconst (v := 2) hx hb d_VA_less_38 (by decide) ?_
      refine lv_icmp_ne (tgt := 68) hx hb d_VA_less_39 rfl (fun h5 => ?_) (fun h5 => ?_)
      · have h5 : ¬ hdK ra = 4 := fun h => h5 (hhd1.s4 (hhk1.symm.trans h))
        refine lv_iconst (v := 0) hx hb d_VA_less_68 (by decide) ?_
        have hP9 := zz_pickP (pre := []) (fz := fz) (wc := []) hP [] rfl
        have hD9 := zz_pickD (pre := []) (fz := fz) (wc := []) hD [] (by decide) rfl
        have hK9 := hK.sub (tys' := [(cB, .byte), (cO, .object "java/lang/Object")]) [0, 1] rfl
        rw [hQ]
        refine W.widen (k := 0) (n := 0) (Nat.le_of_ble_eq_true rfl) (Nat.le_of_ble_eq_true rfl) ?_
        exact W.zret (v := 0) hx hb hr (by decide) (fun t ht hW => ⟨⟨0, (), rfl, by rw [lsV_n hn (fun h => h5 h.1)]; rfl, ⟨by rw [ht]; exact hP9, va_K.moved hW.alike hK9, hD9⟩⟩, hS.F ht⟩) hS.2.2 d_VA_less_69
      · obtain ⟨hk1, htt1⟩ := hhd1.s2 h5
        refine lv_aload_n hx hb d_VA_less_42 rfl (lv_at hl 1 rfl) ?_
        obtain ⟨qz24, hz24⟩ := List.getElem?_of_mem (List.mem_append_right [] hc2)
        refine va_get (D := (dC, dI)) (ci := 3) (v := .int kd2) (C := R_VA) (T := T_VA) (N := 7) hx hb htb in_VA hown hK hP qz24 hz24 rfl 0 (by decide) (htb _ m_378) (fun _ h9 => h9) rfl d_VA_less_43 ?_
        refine lv_iconst (v := 2) hx hb d_VA_less_46 (by decide) ?_
        refine lv_icmp_ne (tgt := 68) hx hb d_VA_less_47 rfl (fun h6 => ?_) (fun h6 => ?_)
        · have h6 : ¬ hdK rb = 4 := fun h => h6 (hhd2.s4 (hhk2.symm.trans h))
          refine lv_iconst (v := 0) hx hb d_VA_less_68 (by decide) ?_
          have hP9 := zz_pickP (pre := []) (fz := fz) (wc := []) hP [] rfl
          have hD9 := zz_pickD (pre := []) (fz := fz) (wc := []) hD [] (by decide) rfl
          have hK9 := hK.sub (tys' := [(cB, .byte), (cO, .object "java/lang/Object")]) [0, 1] rfl
          rw [hQ]
          refine W.widen (k := 0) (n := 0) (Nat.le_of_ble_eq_true rfl) (Nat.le_of_ble_eq_true rfl) ?_
          exact W.zret (v := 0) hx hb hr (by decide) (fun t ht hW => ⟨⟨0, (), rfl, by rw [lsV_n hn (fun h => h6 h.2)]; rfl, ⟨by rw [ht]; exact hP9, va_K.moved hW.alike hK9, hD9⟩⟩, hS.F ht⟩) hS.2.2 d_VA_less_69
        · obtain ⟨hk2, htt2⟩ := hhd2.s2 h6
          have hls : lsV ra rb = ltT tt1 tt2 := by unfold lsV; rw [if_neg hn, decide_eq_true (hhk1.trans hk1), decide_eq_true (hhk2.trans hk2), hT1, hT2, htt1, htt2]; rfl
          refine lv_aload_n hx hb d_VA_less_50 rfl (lv_at hl 0 rfl) ?_
          obtain ⟨qz25, hz25⟩ := List.getElem?_of_mem (List.mem_append_right [] hc1)
          refine va_get (D := (dC, dI)) (ci := 3) (v := .ref tx1) (C := R_VA) (T := T_VA) (N := 7) hx hb htb in_VA hown hK hP qz25 hz25 rfl 1 (by decide) (htb _ m_384) (fun _ h9 => h9) rfl d_VA_less_51 ?_
          refine lv_aload_n hx hb d_VA_less_54 rfl (lv_at hl 1 rfl) ?_
          obtain ⟨qz26, hz26⟩ := List.getElem?_of_mem (List.mem_append_right [] hc2)
          refine va_get (D := (dC, dI)) (ci := 3) (v := .ref tx2) (C := R_VA) (T := T_VA) (N := 7) hx hb htb in_VA hown hK hP qz26 hz26 rfl 1 (by decide) (htb _ m_384) (fun _ h9 => h9) rfl d_VA_less_55 ?_
          have hPc := zz_pickP (pre := []) (fz := fz) (wc := []) hP [] rfl
          have hDc := zz_pickD (pre := []) (fz := fz) (wc := []) hD [] (by decide) rfl
          have hFc := zz_free (pre := []) (fz := fz) (wc := []) hD hS hA [] rfl
          have hKc := hK.sub (tys' := [(cB, .byte)]) [0] rfl
          refine va_calli (va_runS (As := [.ref tx1, .ref tx2]) (rest := []) ⟨hx, hb, hml, hown, htb⟩ (k_VA_textLess l dC dI _ tx1 tx2 tt1 tt2 cB em aK aV fz htx1 htx2) (va_cwS 2 htb (g_S (fun _ h => h) m_1046 m_1044 m_1045 m_18) rfl rfl rfl (by decide +kernel) ⟨Nat.le_of_ble_eq_true rfl, Nat.le_of_ble_eq_true rfl⟩) ⟨fun a U g mk q => by obtain ⟨q0, q1, qP, qK, qD, z0⟩ := q; exact ⟨q0, q1, qP, va_K.moved (u := U) (U := U.calling g mk a) (Vm.Alike.refl U.vm) qK, qD, EX.same (U := U) (U' := U.calling g mk a) rfl z0⟩, fun U hU hW => ⟨rfl, by rw [hU], by rw [hU]; exact hPc, va_K.moved hW.alike hKc, hDc.weaken (fun _ _ _ _ => trivial), by rw [hU]; exact EX.warm hW ((hE.kept (fun a h1 h2 => hS.2.1 a h1 h2)).narrow hFc)⟩⟩ rfl rfl hl.1 rfl (lv_room (Nat.le_of_ble_eq_true rfl)) d_VA_less_58 ⟨Nat.le_of_ble_eq_true rfl, Nat.le_of_ble_eq_true rfl⟩) hS (fun q _ h => hFc q h) hFc (fun r28 u27 t H1 locs ht hvm hw29 hB hz1 hk1 hS => ?_)
          obtain ⟨hP1, hK1, hD1⟩ := hB
          rw [ht] at hP1
          have hK1 := va_K.moved hvm.symm hK1
          replace hw29 : r28 = bI (ltT tt1 tt2) := hw29
          obtain ⟨hP, hD⟩ := zz_join (pre := []) (fz := fz) (wc := []) (wr := []) (w1 := ([] ++ fz)) hP hD [] [] rfl rfl (by decide) (by decide) hk1 hFc hP1 hD1
          have hK := (hK.sub (tys' := [(cO, .object "java/lang/Object")]) [1] rfl).app hK1
          generalize H1 = H at hP hS ⊢
          replace hP : va_P (dC, dI) vwCl ([] ++ fz) H := hP
          replace hD : va_D A ([] ++ fz) := hD
          replace hK : va_K (dC, dI) vwCl [(cO, .object "java/lang/Object"), (cB, .byte)] s := hK
          clear hPc hDc hFc hKc hP1 hD1 hK1 hk1 hz1 ht hvm
          refine lv_if_eq (tgt := 68) hx hb d_VA_less_61 rfl (fun h7 => ?_) (fun h7 => ?_)
          · have h7 : ltT tt1 tt2 = false := bI_eq.mp (show bI (ltT tt1 tt2) = 0 from hw29 ▸ h7)
            refine lv_iconst (v := 0) hx hb d_VA_less_68 (by decide) ?_
            have hP9 := zz_pickP (pre := []) (fz := fz) (wc := []) hP [] rfl
            have hD9 := zz_pickD (pre := []) (fz := fz) (wc := []) hD [] (by decide) rfl
            have hK9 := hK.sub (tys' := [(cB, .byte), (cO, .object "java/lang/Object")]) [1, 0] rfl
            rw [hQ]
            refine W.widen (k := 0) (n := 0) (Nat.le_of_ble_eq_true rfl) (Nat.le_of_ble_eq_true rfl) ?_
            exact W.zret (v := 0) hx hb hr (by decide) (fun t ht hW => ⟨⟨0, (), rfl, by rw [hls, h7]; rfl, ⟨by rw [ht]; exact hP9, va_K.moved hW.alike hK9, hD9⟩⟩, hS.F ht⟩) hS.2.2 d_VA_less_69
          · have h7 : ltT tt1 tt2 = true := bI_ne.mp (show ¬ bI (ltT tt1 tt2) = 0 from hw29 ▸ h7)
            refine lv_iconst (v := 1) hx hb d_VA_less_64 (by decide) ?_
            refine lv_goto (tgt := 69) hx hb d_VA_less_65 rfl ?_
            have hP9 := zz_pickP (pre := []) (fz := fz) (wc := []) hP [] rfl
            have hD9 := zz_pickD (pre := []) (fz := fz) (wc := []) hD [] (by decide) rfl
            have hK9 := hK.sub (tys' := [(cB, .byte), (cO, .object "java/lang/Object")]) [1, 0] rfl
            rw [hQ]
            refine W.widen (k := 0) (n := 0) (Nat.le_of_ble_eq_true rfl) (Nat.le_of_ble_eq_true rfl) ?_
            exact W.zret (v := 1) hx hb hr (by decide) (fun t ht hW => ⟨⟨1, (), rfl, by rw [hls, h7]; rfl, ⟨by rw [ht]; exact hP9, va_K.moved hW.alike hK9, hD9⟩⟩, hS.F ht⟩) hS.2.2 d_VA_less_69
    · have hk2 := hhd2.n1 h2
      obtain ⟨-, hu1, hr1, hr2⟩ := hhd1.num hk1
      obtain ⟨-, hu2, hr3, hr4⟩ := hhd2.num hk2
      have hls : lsV ra rb = decide (num1 < num2) := by unfold lsV; rw [if_pos ⟨hhk1.trans hk1, hhk2.trans hk2⟩, hN1, hN2]
      refine lv_aload_n hx hb d_VA_less_16 rfl (lv_at hl 0 rfl) ?_
      obtain ⟨qz23, hz23⟩ := List.getElem?_of_mem (List.mem_append_right [] hc1)
      refine va_get (D := (dC, dI)) (ci := 3) (v := .long nu1) (C := R_VA) (T := T_VA) (N := 7) hx hb htb in_VA hown hK hP qz23 hz23 rfl 2 (by decide) (htb _ m_388) (fun _ h9 => h9) rfl d_VA_less_17 ?_
      refine lv_aload_n hx hb d_VA_less_20 rfl (lv_at hl 1 rfl) ?_
      obtain ⟨qz24, hz24⟩ := List.getElem?_of_mem (List.mem_append_right [] hc2)
      refine va_get (D := (dC, dI)) (ci := 3) (v := .long nu2) (C := R_VA) (T := T_VA) (N := 7) hx hb htb in_VA hown hK hP qz24 hz24 rfl 2 (by decide) (htb _ m_388) (fun _ h9 => h9) rfl d_VA_less_21 ?_
      refine W.lcmp hx hb d_VA_less_24 ?_
      refine lv_if_ge (tgt := 32) hx hb d_VA_less_25 rfl (fun h3 => ?_) (fun h3 => ?_)
      · have h3 : ¬ num1 < num2 := fun h => lg_ge0.mp h3 (by rw [hu1, hu2]; exact (lIo_lt hr1 hr2 hr3 hr4).mpr h)
        refine lv_iconst (v := 0) hx hb d_VA_less_32 (by decide) ?_
        have hP9 := zz_pickP (pre := []) (fz := fz) (wc := []) hP [] rfl
        have hD9 := zz_pickD (pre := []) (fz := fz) (wc := []) hD [] (by decide) rfl
        have hK9 := hK.sub (tys' := [(cB, .byte), (cO, .object "java/lang/Object")]) [0, 1] rfl
        rw [hQ]
        refine W.widen (k := 0) (n := 0) (Nat.le_of_ble_eq_true rfl) (Nat.le_of_ble_eq_true rfl) ?_
        exact W.zret (v := 0) hx hb hr (by decide) (fun t ht hW => ⟨⟨0, (), rfl, by rw [hls, decide_eq_false h3]; rfl, ⟨by rw [ht]; exact hP9, va_K.moved hW.alike hK9, hD9⟩⟩, hS.F ht⟩) hS.2.2 d_VA_less_33
      · have h3 : num1 < num2 := (lIo_lt hr1 hr2 hr3 hr4).mp (by rw [← hu1, ← hu2]; exact Classical.byContradiction (fun h => h3 (lg_ge0.mpr h)))
        refine lv_iconst (v := 1) hx hb d_VA_less_28 (by decide) ?_
        refine lv_goto (tgt := 33) hx hb d_VA_less_29 rfl ?_
        have hP9 := zz_pickP (pre := []) (fz := fz) (wc := []) hP [] rfl
        have hD9 := zz_pickD (pre := []) (fz := fz) (wc := []) hD [] (by decide) rfl
        have hK9 := hK.sub (tys' := [(cB, .byte), (cO, .object "java/lang/Object")]) [0, 1] rfl
        rw [hQ]
        refine W.widen (k := 0) (n := 0) (Nat.le_of_ble_eq_true rfl) (Nat.le_of_ble_eq_true rfl) ?_
        exact W.zret (v := 1) hx hb hr (by decide) (fun t ht hW => ⟨⟨1, (), rfl, by rw [hls, decide_eq_true h3]; rfl, ⟨by rw [ht]; exact hP9, va_K.moved hW.alike hK9, hD9⟩⟩, hS.F ht⟩) hS.2.2 d_VA_less_33
