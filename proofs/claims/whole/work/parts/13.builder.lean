theorem mm_max {a b : Nat} (ha : a < 2 ^ 31) (hb : b < 2 ^ 31) : (if nI a < nI b then nI b else nI a) = nI (Nat.max a b) := by
  by_cases h : a < b
  · rw [if_pos ((nI_ltI ha hb).mpr h), show Nat.max a b = b from Nat.max_eq_right (by omega)]
  · rw [if_neg (mt (nI_ltI ha hb).mp h), show Nat.max a b = a from Nat.max_eq_left (by omega)]
theorem mm_min {a b : Nat} (ha : a < 2 ^ 31) (hb : b < 2 ^ 31) : (if nI b < nI a then nI b else nI a) = nI (Nat.min a b) := by
  by_cases h : b < a
  · rw [if_pos ((nI_ltI hb ha).mpr h), show Nat.min a b = b from Nat.min_eq_right (by omega)]
  · rw [if_neg (mt (nI_ltI hb ha).mp h), show Nat.min a b = a from Nat.min_eq_left (by omega)]
theorem zz_ty {D : va_G} {cl : List vw_C} {tys : List (ClassId × FieldType)} {U : State} (h : va_K D cl tys U) (i j : Nat) {c1 c2 : ClassId} {ty : FieldType} (h1 : tys[i]? = some (c1, ty)) (h2 : tys[j]? = some (c2, ty)) : c1 = c2 := by
  have e1 := (h.2 i _ h1).2
  have e2 := (h.2 j _ h2).2
  cases ty with
  | object C =>
    obtain ⟨_, _, _, _, _, g1⟩ := e1
    obtain ⟨_, _, _, _, _, g2⟩ := e2
    exact Option.some.inj (g1.symm.trans g2)
  | _ => exact Option.some.inj (Eq.trans (Eq.symm e1) e2)
set_option maxHeartbeats 1000000 in
set_option maxRecDepth 100000 in
/-- newLength of small numbers -/
theorem q_AS_newLength (l : Launch) (dC : Nat → ClassId) (dI : Nat → Nat → Nat) (o : Nat) (g : Nat) (k : Nat) (ho : o < 65536) (hg : g < 65536) (hk : k < 65536) (h0 : 0 < o + Nat.max g k) : Met l y_AS_newLength ws_AS_newLength ({ frames := 1, cells := 0, slots := 0, locals := 14 }) (va_Pc [.int (nI o), .int (nI g), .int (nI k)] (fun U => va_P (dC, dI) vwCl [] U.heap ∧ va_K (dC, dI) vwCl [] U)) (vp_Si (fun (r : Int32) => r = nI (o + Nat.max g k))) 0 0 (fun _ => False) := by
  refine Met.ofW (cc := c_AS_newLength) (maxL := 4) (ret := (some .int)) (by decide) rfl ?_
  intro p e s m args below meth c s₁ B hml hv
  obtain ⟨rfl, hP, hK⟩ := hv
  have hx := B.exec
  have hb := B.bytes
  have hr := B.returns
  have hts := atoms_spec (ws := ws_AS_newLength) B.pre
  have htb := fun w (h : w ∈ TBL) => hts w (List.mem_cons_of_mem _ h)
  have hown : s.vm.findClass R_AS = some m.cls := findClass_of_methodNamed B.named
  have hlocks := B.notSynchronized
  have hl := lv_entry ([.int (nI o), .int (nI g), .int (nI k)]) (n := 4) (Nat.le_of_ble_eq_true rfl)
  rw [lg_entry_eq]
  generalize (lg_sl ([.int (nI o), .int (nI g), .int (nI k)]) ++ List.replicate (4 - (lg_sl ([.int (nI o), .int (nI g), .int (nI k)])).length) Slot.unset).toArray = ls at hl ⊢
  have hl : lv_has ls 4 [(0, .int (nI o)), (1, .int (nI g)), (2, .int (nI k))] := hl
  have hmx : Nat.max g k < 65536 := by rw [show Nat.max g k = max g k from rfl, Nat.max_def]; split <;> omega
  refine lv_iload_n hx hb d_AS_newLength_0 rfl (lv_at hl 0 rfl) ?_
  refine lv_iload_n hx hb d_AS_newLength_1 rfl (lv_at hl 1 rfl) ?_
  refine lv_iload_n hx hb d_AS_newLength_2 rfl (lv_at hl 2 rfl) ?_
  refine va_mmax hx hb (hml.trans hl.1.symm) hown (htb _ m_211) (htb _ m_212) (htb _ m_13) (htb _ m_213) (Nat.le_of_ble_eq_true rfl) (Nat.le_of_ble_eq_true rfl) (Nat.le_of_ble_eq_true rfl) (Nat.le_of_ble_eq_true rfl) d_AS_newLength_3 ?_
  refine W.eq (congrArg (fun z => F0 m 6 ls (.int z :: [.int (nI o)])) (mm_max (by omega) (by omega) : (if (nI g) < (nI k) then (nI k) else (nI g)) = nI (Nat.max g k))) ?_
  refine lv_iadd hx hb d_AS_newLength_6 ?_
  refine W.eq (congrArg (fun z => F0 m 7 ls (.int z :: [])) (nI_add _ _ : ((nI o) + (nI (Nat.max g k))) = nI (o + Nat.max g k))) ?_
  refine lv_istore_n hx hb d_AS_newLength_7 rfl hl (by decide) rfl (fun ls hl => ?_)
  have hl : lv_has ls 4 [(3, .int (nI (o + Nat.max g k))), (0, .int (nI o)), (1, .int (nI g)), (2, .int (nI k))] := hl
  refine lv_iconst (v := 0) hx hb d_AS_newLength_8 (by decide) ?_
  refine lv_iload_n hx hb d_AS_newLength_9 rfl (lv_at hl 0 rfl) ?_
  refine lv_icmp_ge (tgt := 21) hx hb d_AS_newLength_10 rfl (fun h9 => absurd h9 (nI_nle h0 (by omega))) (fun _ => ?_)
  refine lv_iload_n hx hb d_AS_newLength_13 rfl (lv_at hl 0 rfl) ?_
  refine lv_ldc (v := 2147483639) hx hb hown (htb _ m_214) d_AS_newLength_14 ?_
  refine lv_icmp_gt (tgt := 21) hx hb d_AS_newLength_16 rfl (fun h9 => absurd h9 (nI_nlt (a := 2147483639) (b := o + Nat.max g k) (by omega) (by decide))) (fun _ => ?_)
  refine lv_iload_n hx hb d_AS_newLength_19 rfl (lv_at hl 0 rfl) ?_
  exact W.iret (v := (nI (o + Nat.max g k))) hx hb hr (fun t ht hW => ⟨(nI (o + Nat.max g k)), rfl, rfl, ht⟩) (fun q h => absurd h List.not_mem_nil) d_AS_newLength_20
set_option maxHeartbeats 1000000 in
set_option maxRecDepth 100000 in
theorem q_AB_newCapacity_16 (l : Launch) (dC : Nat → ClassId) (dI : Nat → Nat → Nat) (x : Nat) (bv : Nat) (ml : Int32) (n : Nat) (cB : ClassId) (f : Nat → Int32) : Met l y_AB_newCapacity ws_AB_newCapacity ({ frames := 2, cells := 0, slots := 0, locals := 37 }) (va_Pc [.ref x, .int 17] (fun U => va_P (dC, dI) vwCl [(x, .inr (13, [.ref bv, .int 0, .int ml, .int (nI n)])), (bv, .inl (cB, 16, .inl f))] U.heap ∧ va_K (dC, dI) vwCl [(cB, .byte)] U)) (vp_Si (fun (r : Int32) => r = 34)) 0 0 (fun _ => False) := by
  refine Met.ofW (cc := c_AB_newCapacity) (maxL := 6) (ret := (some .int)) (by decide) rfl ?_
  intro p e s m args below meth c s₁ B hml hv
  obtain ⟨rfl, hP, hK⟩ := hv
  have hx := B.exec
  have hb := B.bytes
  have hr := B.returns
  have hts := atoms_spec (ws := ws_AB_newCapacity) B.pre
  have htb := fun w (h : w ∈ TBL) => hts w (List.mem_cons_of_mem _ h)
  have hown : s.vm.findClass R_AB = some m.cls := findClass_of_methodNamed B.named
  have hlocks := B.notSynchronized
  have hl := lv_entry ([.ref x, .int 17]) (n := 6) (Nat.le_of_ble_eq_true rfl)
  rw [lg_entry_eq]
  generalize (lg_sl ([.ref x, .int 17]) ++ List.replicate (6 - (lg_sl ([.ref x, .int 17])).length) Slot.unset).toArray = ls at hl ⊢
  have hl : lv_has ls 6 [(0, .ref x), (1, .int 17)] := hl
  refine lv_aload_n hx hb d_AB_newCapacity_0 rfl (lv_at hl 0 rfl) ?_
  refine va_get (D := (dC, dI)) (ci := 13) (v := .ref bv) (C := R_SB) (T := T_SB) (N := 4) hx hb htb in_SB hown hK hP 0 rfl rfl 0 (by decide) (htb _ m_55) (fun _ h9 => h9) rfl d_AB_newCapacity_1 ?_
  refine va_alen (v := 16) hx hb hK hP 1 0 rfl rfl rfl d_AB_newCapacity_4 ?_
  refine lv_istore_n hx hb d_AB_newCapacity_5 rfl hl (by decide) rfl (fun ls hl => ?_)
  have hl : lv_has ls 6 [(2, .int 16), (0, .ref x), (1, .int 17)] := hl
  refine lv_iload_n hx hb d_AB_newCapacity_6 rfl (lv_at hl 2 rfl) ?_
  refine lv_aload_n hx hb d_AB_newCapacity_7 rfl (lv_at hl 1 rfl) ?_
  refine va_get (D := (dC, dI)) (ci := 13) (v := .int 0) (C := R_SB) (T := T_SB) (N := 4) hx hb htb in_SB hown hK hP 0 rfl rfl 1 (by decide) (htb _ m_56) (fun _ h9 => h9) rfl d_AB_newCapacity_8 ?_
  refine lv_ishl hx hb d_AB_newCapacity_11 ?_
  refine W.eq (congrArg (fun z => F0 m 12 ls (.int z :: [])) (by decide : ((17 : Int32) <<< ((0 : Int32) &&& 31)) = 17)) ?_
  refine lv_istore_n hx hb d_AB_newCapacity_12 rfl hl (by decide) rfl (fun ls hl => ?_)
  have hl : lv_has ls 6 [(3, .int 17), (2, .int 16), (0, .ref x), (1, .int 17)] := hl
  refine lv_iload_n hx hb d_AB_newCapacity_13 rfl (lv_at hl 0 rfl) ?_
  refine lv_iload_n hx hb d_AB_newCapacity_14 rfl (lv_at hl 1 rfl) ?_
  refine lv_isub hx hb d_AB_newCapacity_15 ?_
  refine W.eq (congrArg (fun z => F0 m 16 ls (.int z :: [])) (by decide : ((17 : Int32) - 16) = 1)) ?_
  refine lv_istore hx hb d_AB_newCapacity_16 hl (by decide) rfl (fun ls hl => ?_)
  have hl : lv_has ls 6 [(4, .int 1), (3, .int 17), (2, .int 16), (0, .ref x), (1, .int 17)] := hl
  refine lv_iload_n hx hb d_AB_newCapacity_18 rfl (lv_at hl 2 rfl) ?_
  refine lv_iload hx hb d_AB_newCapacity_19 (lv_at hl 0 rfl) ?_
  refine lv_iload_n hx hb d_AB_newCapacity_21 rfl (lv_at hl 2 rfl) ?_
  refine lv_iconst (v := 2) hx hb d_AB_newCapacity_22 (by decide) ?_
  refine lv_aload_n hx hb d_AB_newCapacity_23 rfl (lv_at hl 3 rfl) ?_
  refine va_get (D := (dC, dI)) (ci := 13) (v := .int 0) (C := R_SB) (T := T_SB) (N := 4) hx hb htb in_SB hown hK hP 0 rfl rfl 1 (by decide) (htb _ m_56) (fun _ h9 => h9) rfl d_AB_newCapacity_24 ?_
  refine lv_ishl hx hb d_AB_newCapacity_27 ?_
  refine W.eq (congrArg (fun z => F0 m 28 ls (.int z :: [.int 16, .int 1, .int 16])) (by decide : ((2 : Int32) <<< ((0 : Int32) &&& 31)) = 2)) ?_
  refine lv_iadd hx hb d_AB_newCapacity_28 ?_
  refine W.eq (congrArg (fun z => F0 m 29 ls (.int z :: [.int 1, .int 16])) (by decide : ((16 : Int32) + 2) = 18)) ?_
  have hPc : va_P (dC, dI) vwCl [] _ := hP.sub (ws' := []) [] rfl
  have hKc := hK.sub (tys' := []) [] rfl
  refine vp_callSi (W.runS (As := [.int (nI 16), .int (nI 1), .int (nI 18)]) (rest := []) ⟨hx, hb, hml, hown, htb⟩ (q_AS_newLength l dC dI 16 1 18 (by decide) (by decide) (by decide) (by decide)) (va_cwS 3 htb (g_S (fun _ h => h) m_210 m_208 m_209 m_12) rfl rfl rfl (by decide +kernel) ⟨Nat.le_of_ble_eq_true rfl, Nat.le_of_ble_eq_true rfl⟩) ⟨fun a U g mk q => by obtain ⟨q0, qP, qK⟩ := q; exact ⟨q0, qP, va_K.moved (u := U) (U := U.calling g mk a) (Vm.Alike.refl U.vm) qK⟩, fun U hU hW => ⟨rfl, by rw [hU]; exact hPc, va_K.moved hW.alike hKc⟩⟩ rfl rfl hl.1 rfl (lv_room (Nat.le_of_ble_eq_true rfl)) d_AB_newCapacity_29 ⟨Nat.le_of_ble_eq_true rfl, Nat.le_of_ble_eq_true rfl⟩) (fun r1 hw2 => ?_)
  have hw2 : r1 = nI (16 + Nat.max 1 18) := hw2
  obtain rfl : r1 = (34 : Int32) := hw2.trans (by decide)
  refine lv_istore hx hb d_AB_newCapacity_32 hl (by decide) rfl (fun ls hl => ?_)
  have hl : lv_has ls 6 [(5, .int 34), (4, .int 1), (3, .int 17), (2, .int 16), (0, .ref x), (1, .int 17)] := hl
  refine lv_iload hx hb d_AB_newCapacity_34 (lv_at hl 0 rfl) ?_
  refine lv_ldc (v := 2147483647) hx hb hown (htb _ m_218) d_AB_newCapacity_36 ?_
  refine lv_icmp_ne (tgt := 51) hx hb d_AB_newCapacity_38 rfl (fun _ => ?_) (fun h9 => absurd h9 (by decide))
  refine lv_iload hx hb d_AB_newCapacity_51 (lv_at hl 0 rfl) ?_
  refine lv_aload_n hx hb d_AB_newCapacity_53 rfl (lv_at hl 4 rfl) ?_
  refine va_get (D := (dC, dI)) (ci := 13) (v := .int 0) (C := R_SB) (T := T_SB) (N := 4) hx hb htb in_SB hown hK hP 0 rfl rfl 1 (by decide) (htb _ m_56) (fun _ h9 => h9) rfl d_AB_newCapacity_54 ?_
  refine lv_ishr hx hb d_AB_newCapacity_57 ?_
  refine W.eq (congrArg (fun z => F0 m 58 ls (.int z :: [])) (by decide : ((34 : Int32) >>> ((0 : Int32) &&& 31)) = 34)) ?_
  exact W.iret (v := 34) hx hb hr (fun t ht hW => ⟨34, rfl, rfl, ht⟩) (fun q h => absurd h List.not_mem_nil) d_AB_newCapacity_58
set_option maxHeartbeats 1000000 in
set_option maxRecDepth 100000 in
theorem q_AB_newCapacity_34 (l : Launch) (dC : Nat → ClassId) (dI : Nat → Nat → Nat) (x : Nat) (bv : Nat) (ml : Int32) (n : Nat) (cB : ClassId) (f : Nat → Int32) : Met l y_AB_newCapacity ws_AB_newCapacity ({ frames := 2, cells := 0, slots := 0, locals := 37 }) (va_Pc [.ref x, .int 35] (fun U => va_P (dC, dI) vwCl [(x, .inr (13, [.ref bv, .int 0, .int ml, .int (nI n)])), (bv, .inl (cB, 34, .inl f))] U.heap ∧ va_K (dC, dI) vwCl [(cB, .byte)] U)) (vp_Si (fun (r : Int32) => r = 70)) 0 0 (fun _ => False) := by
  refine Met.ofW (cc := c_AB_newCapacity) (maxL := 6) (ret := (some .int)) (by decide) rfl ?_
  intro p e s m args below meth c s₁ B hml hv
  obtain ⟨rfl, hP, hK⟩ := hv
  have hx := B.exec
  have hb := B.bytes
  have hr := B.returns
  have hts := atoms_spec (ws := ws_AB_newCapacity) B.pre
  have htb := fun w (h : w ∈ TBL) => hts w (List.mem_cons_of_mem _ h)
  have hown : s.vm.findClass R_AB = some m.cls := findClass_of_methodNamed B.named
  have hlocks := B.notSynchronized
  have hl := lv_entry ([.ref x, .int 35]) (n := 6) (Nat.le_of_ble_eq_true rfl)
  rw [lg_entry_eq]
  generalize (lg_sl ([.ref x, .int 35]) ++ List.replicate (6 - (lg_sl ([.ref x, .int 35])).length) Slot.unset).toArray = ls at hl ⊢
  have hl : lv_has ls 6 [(0, .ref x), (1, .int 35)] := hl
  refine lv_aload_n hx hb d_AB_newCapacity_0 rfl (lv_at hl 0 rfl) ?_
  refine va_get (D := (dC, dI)) (ci := 13) (v := .ref bv) (C := R_SB) (T := T_SB) (N := 4) hx hb htb in_SB hown hK hP 0 rfl rfl 0 (by decide) (htb _ m_55) (fun _ h9 => h9) rfl d_AB_newCapacity_1 ?_
  refine va_alen (v := 34) hx hb hK hP 1 0 rfl rfl rfl d_AB_newCapacity_4 ?_
  refine lv_istore_n hx hb d_AB_newCapacity_5 rfl hl (by decide) rfl (fun ls hl => ?_)
  have hl : lv_has ls 6 [(2, .int 34), (0, .ref x), (1, .int 35)] := hl
  refine lv_iload_n hx hb d_AB_newCapacity_6 rfl (lv_at hl 2 rfl) ?_
  refine lv_aload_n hx hb d_AB_newCapacity_7 rfl (lv_at hl 1 rfl) ?_
  refine va_get (D := (dC, dI)) (ci := 13) (v := .int 0) (C := R_SB) (T := T_SB) (N := 4) hx hb htb in_SB hown hK hP 0 rfl rfl 1 (by decide) (htb _ m_56) (fun _ h9 => h9) rfl d_AB_newCapacity_8 ?_
  refine lv_ishl hx hb d_AB_newCapacity_11 ?_
  refine W.eq (congrArg (fun z => F0 m 12 ls (.int z :: [])) (by decide : ((35 : Int32) <<< ((0 : Int32) &&& 31)) = 35)) ?_
  refine lv_istore_n hx hb d_AB_newCapacity_12 rfl hl (by decide) rfl (fun ls hl => ?_)
  have hl : lv_has ls 6 [(3, .int 35), (2, .int 34), (0, .ref x), (1, .int 35)] := hl
  refine lv_iload_n hx hb d_AB_newCapacity_13 rfl (lv_at hl 0 rfl) ?_
  refine lv_iload_n hx hb d_AB_newCapacity_14 rfl (lv_at hl 1 rfl) ?_
  refine lv_isub hx hb d_AB_newCapacity_15 ?_
  refine W.eq (congrArg (fun z => F0 m 16 ls (.int z :: [])) (by decide : ((35 : Int32) - 34) = 1)) ?_
  refine lv_istore hx hb d_AB_newCapacity_16 hl (by decide) rfl (fun ls hl => ?_)
  have hl : lv_has ls 6 [(4, .int 1), (3, .int 35), (2, .int 34), (0, .ref x), (1, .int 35)] := hl
  refine lv_iload_n hx hb d_AB_newCapacity_18 rfl (lv_at hl 2 rfl) ?_
  refine lv_iload hx hb d_AB_newCapacity_19 (lv_at hl 0 rfl) ?_
  refine lv_iload_n hx hb d_AB_newCapacity_21 rfl (lv_at hl 2 rfl) ?_
  refine lv_iconst (v := 2) hx hb d_AB_newCapacity_22 (by decide) ?_
  refine lv_aload_n hx hb d_AB_newCapacity_23 rfl (lv_at hl 3 rfl) ?_
  refine va_get (D := (dC, dI)) (ci := 13) (v := .int 0) (C := R_SB) (T := T_SB) (N := 4) hx hb htb in_SB hown hK hP 0 rfl rfl 1 (by decide) (htb _ m_56) (fun _ h9 => h9) rfl d_AB_newCapacity_24 ?_
  refine lv_ishl hx hb d_AB_newCapacity_27 ?_
  refine W.eq (congrArg (fun z => F0 m 28 ls (.int z :: [.int 34, .int 1, .int 34])) (by decide : ((2 : Int32) <<< ((0 : Int32) &&& 31)) = 2)) ?_
  refine lv_iadd hx hb d_AB_newCapacity_28 ?_
  refine W.eq (congrArg (fun z => F0 m 29 ls (.int z :: [.int 1, .int 34])) (by decide : ((34 : Int32) + 2) = 36)) ?_
  have hPc : va_P (dC, dI) vwCl [] _ := hP.sub (ws' := []) [] rfl
  have hKc := hK.sub (tys' := []) [] rfl
  refine vp_callSi (W.runS (As := [.int (nI 34), .int (nI 1), .int (nI 36)]) (rest := []) ⟨hx, hb, hml, hown, htb⟩ (q_AS_newLength l dC dI 34 1 36 (by decide) (by decide) (by decide) (by decide)) (va_cwS 3 htb (g_S (fun _ h => h) m_210 m_208 m_209 m_12) rfl rfl rfl (by decide +kernel) ⟨Nat.le_of_ble_eq_true rfl, Nat.le_of_ble_eq_true rfl⟩) ⟨fun a U g mk q => by obtain ⟨q0, qP, qK⟩ := q; exact ⟨q0, qP, va_K.moved (u := U) (U := U.calling g mk a) (Vm.Alike.refl U.vm) qK⟩, fun U hU hW => ⟨rfl, by rw [hU]; exact hPc, va_K.moved hW.alike hKc⟩⟩ rfl rfl hl.1 rfl (lv_room (Nat.le_of_ble_eq_true rfl)) d_AB_newCapacity_29 ⟨Nat.le_of_ble_eq_true rfl, Nat.le_of_ble_eq_true rfl⟩) (fun r1 hw2 => ?_)
  have hw2 : r1 = nI (34 + Nat.max 1 36) := hw2
  obtain rfl : r1 = (70 : Int32) := hw2.trans (by decide)
  refine lv_istore hx hb d_AB_newCapacity_32 hl (by decide) rfl (fun ls hl => ?_)
  have hl : lv_has ls 6 [(5, .int 70), (4, .int 1), (3, .int 35), (2, .int 34), (0, .ref x), (1, .int 35)] := hl
  refine lv_iload hx hb d_AB_newCapacity_34 (lv_at hl 0 rfl) ?_
  refine lv_ldc (v := 2147483647) hx hb hown (htb _ m_218) d_AB_newCapacity_36 ?_
  refine lv_icmp_ne (tgt := 51) hx hb d_AB_newCapacity_38 rfl (fun _ => ?_) (fun h9 => absurd h9 (by decide))
  refine lv_iload hx hb d_AB_newCapacity_51 (lv_at hl 0 rfl) ?_
  refine lv_aload_n hx hb d_AB_newCapacity_53 rfl (lv_at hl 4 rfl) ?_
  refine va_get (D := (dC, dI)) (ci := 13) (v := .int 0) (C := R_SB) (T := T_SB) (N := 4) hx hb htb in_SB hown hK hP 0 rfl rfl 1 (by decide) (htb _ m_56) (fun _ h9 => h9) rfl d_AB_newCapacity_54 ?_
  refine lv_ishr hx hb d_AB_newCapacity_57 ?_
  refine W.eq (congrArg (fun z => F0 m 58 ls (.int z :: [])) (by decide : ((70 : Int32) >>> ((0 : Int32) &&& 31)) = 70)) ?_
  exact W.iret (v := 70) hx hb hr (fun t ht hW => ⟨70, rfl, rfl, ht⟩) (fun q h => absurd h List.not_mem_nil) d_AB_newCapacity_58
set_option maxHeartbeats 1000000 in
set_option maxRecDepth 100000 in
theorem q_AB_newCapacity_70 (l : Launch) (dC : Nat → ClassId) (dI : Nat → Nat → Nat) (x : Nat) (bv : Nat) (ml : Int32) (n : Nat) (cB : ClassId) (f : Nat → Int32) : Met l y_AB_newCapacity ws_AB_newCapacity ({ frames := 2, cells := 0, slots := 0, locals := 37 }) (va_Pc [.ref x, .int 71] (fun U => va_P (dC, dI) vwCl [(x, .inr (13, [.ref bv, .int 0, .int ml, .int (nI n)])), (bv, .inl (cB, 70, .inl f))] U.heap ∧ va_K (dC, dI) vwCl [(cB, .byte)] U)) (vp_Si (fun (r : Int32) => r = 142)) 0 0 (fun _ => False) := by
  refine Met.ofW (cc := c_AB_newCapacity) (maxL := 6) (ret := (some .int)) (by decide) rfl ?_
  intro p e s m args below meth c s₁ B hml hv
  obtain ⟨rfl, hP, hK⟩ := hv
  have hx := B.exec
  have hb := B.bytes
  have hr := B.returns
  have hts := atoms_spec (ws := ws_AB_newCapacity) B.pre
  have htb := fun w (h : w ∈ TBL) => hts w (List.mem_cons_of_mem _ h)
  have hown : s.vm.findClass R_AB = some m.cls := findClass_of_methodNamed B.named
  have hlocks := B.notSynchronized
  have hl := lv_entry ([.ref x, .int 71]) (n := 6) (Nat.le_of_ble_eq_true rfl)
  rw [lg_entry_eq]
  generalize (lg_sl ([.ref x, .int 71]) ++ List.replicate (6 - (lg_sl ([.ref x, .int 71])).length) Slot.unset).toArray = ls at hl ⊢
  have hl : lv_has ls 6 [(0, .ref x), (1, .int 71)] := hl
  refine lv_aload_n hx hb d_AB_newCapacity_0 rfl (lv_at hl 0 rfl) ?_
  refine va_get (D := (dC, dI)) (ci := 13) (v := .ref bv) (C := R_SB) (T := T_SB) (N := 4) hx hb htb in_SB hown hK hP 0 rfl rfl 0 (by decide) (htb _ m_55) (fun _ h9 => h9) rfl d_AB_newCapacity_1 ?_
  refine va_alen (v := 70) hx hb hK hP 1 0 rfl rfl rfl d_AB_newCapacity_4 ?_
  refine lv_istore_n hx hb d_AB_newCapacity_5 rfl hl (by decide) rfl (fun ls hl => ?_)
  have hl : lv_has ls 6 [(2, .int 70), (0, .ref x), (1, .int 71)] := hl
  refine lv_iload_n hx hb d_AB_newCapacity_6 rfl (lv_at hl 2 rfl) ?_
  refine lv_aload_n hx hb d_AB_newCapacity_7 rfl (lv_at hl 1 rfl) ?_
  refine va_get (D := (dC, dI)) (ci := 13) (v := .int 0) (C := R_SB) (T := T_SB) (N := 4) hx hb htb in_SB hown hK hP 0 rfl rfl 1 (by decide) (htb _ m_56) (fun _ h9 => h9) rfl d_AB_newCapacity_8 ?_
  refine lv_ishl hx hb d_AB_newCapacity_11 ?_
  refine W.eq (congrArg (fun z => F0 m 12 ls (.int z :: [])) (by decide : ((71 : Int32) <<< ((0 : Int32) &&& 31)) = 71)) ?_
  refine lv_istore_n hx hb d_AB_newCapacity_12 rfl hl (by decide) rfl (fun ls hl => ?_)
  have hl : lv_has ls 6 [(3, .int 71), (2, .int 70), (0, .ref x), (1, .int 71)] := hl
  refine lv_iload_n hx hb d_AB_newCapacity_13 rfl (lv_at hl 0 rfl) ?_
  refine lv_iload_n hx hb d_AB_newCapacity_14 rfl (lv_at hl 1 rfl) ?_
  refine lv_isub hx hb d_AB_newCapacity_15 ?_
  refine W.eq (congrArg (fun z => F0 m 16 ls (.int z :: [])) (by decide : ((71 : Int32) - 70) = 1)) ?_
  refine lv_istore hx hb d_AB_newCapacity_16 hl (by decide) rfl (fun ls hl => ?_)
  have hl : lv_has ls 6 [(4, .int 1), (3, .int 71), (2, .int 70), (0, .ref x), (1, .int 71)] := hl
  refine lv_iload_n hx hb d_AB_newCapacity_18 rfl (lv_at hl 2 rfl) ?_
  refine lv_iload hx hb d_AB_newCapacity_19 (lv_at hl 0 rfl) ?_
  refine lv_iload_n hx hb d_AB_newCapacity_21 rfl (lv_at hl 2 rfl) ?_
  refine lv_iconst (v := 2) hx hb d_AB_newCapacity_22 (by decide) ?_
  refine lv_aload_n hx hb d_AB_newCapacity_23 rfl (lv_at hl 3 rfl) ?_
  refine va_get (D := (dC, dI)) (ci := 13) (v := .int 0) (C := R_SB) (T := T_SB) (N := 4) hx hb htb in_SB hown hK hP 0 rfl rfl 1 (by decide) (htb _ m_56) (fun _ h9 => h9) rfl d_AB_newCapacity_24 ?_
  refine lv_ishl hx hb d_AB_newCapacity_27 ?_
  refine W.eq (congrArg (fun z => F0 m 28 ls (.int z :: [.int 70, .int 1, .int 70])) (by decide : ((2 : Int32) <<< ((0 : Int32) &&& 31)) = 2)) ?_
  refine lv_iadd hx hb d_AB_newCapacity_28 ?_
  refine W.eq (congrArg (fun z => F0 m 29 ls (.int z :: [.int 1, .int 70])) (by decide : ((70 : Int32) + 2) = 72)) ?_
  have hPc : va_P (dC, dI) vwCl [] _ := hP.sub (ws' := []) [] rfl
  have hKc := hK.sub (tys' := []) [] rfl
  refine vp_callSi (W.runS (As := [.int (nI 70), .int (nI 1), .int (nI 72)]) (rest := []) ⟨hx, hb, hml, hown, htb⟩ (q_AS_newLength l dC dI 70 1 72 (by decide) (by decide) (by decide) (by decide)) (va_cwS 3 htb (g_S (fun _ h => h) m_210 m_208 m_209 m_12) rfl rfl rfl (by decide +kernel) ⟨Nat.le_of_ble_eq_true rfl, Nat.le_of_ble_eq_true rfl⟩) ⟨fun a U g mk q => by obtain ⟨q0, qP, qK⟩ := q; exact ⟨q0, qP, va_K.moved (u := U) (U := U.calling g mk a) (Vm.Alike.refl U.vm) qK⟩, fun U hU hW => ⟨rfl, by rw [hU]; exact hPc, va_K.moved hW.alike hKc⟩⟩ rfl rfl hl.1 rfl (lv_room (Nat.le_of_ble_eq_true rfl)) d_AB_newCapacity_29 ⟨Nat.le_of_ble_eq_true rfl, Nat.le_of_ble_eq_true rfl⟩) (fun r1 hw2 => ?_)
  have hw2 : r1 = nI (70 + Nat.max 1 72) := hw2
  obtain rfl : r1 = (142 : Int32) := hw2.trans (by decide)
  refine lv_istore hx hb d_AB_newCapacity_32 hl (by decide) rfl (fun ls hl => ?_)
  have hl : lv_has ls 6 [(5, .int 142), (4, .int 1), (3, .int 71), (2, .int 70), (0, .ref x), (1, .int 71)] := hl
  refine lv_iload hx hb d_AB_newCapacity_34 (lv_at hl 0 rfl) ?_
  refine lv_ldc (v := 2147483647) hx hb hown (htb _ m_218) d_AB_newCapacity_36 ?_
  refine lv_icmp_ne (tgt := 51) hx hb d_AB_newCapacity_38 rfl (fun _ => ?_) (fun h9 => absurd h9 (by decide))
  refine lv_iload hx hb d_AB_newCapacity_51 (lv_at hl 0 rfl) ?_
  refine lv_aload_n hx hb d_AB_newCapacity_53 rfl (lv_at hl 4 rfl) ?_
  refine va_get (D := (dC, dI)) (ci := 13) (v := .int 0) (C := R_SB) (T := T_SB) (N := 4) hx hb htb in_SB hown hK hP 0 rfl rfl 1 (by decide) (htb _ m_56) (fun _ h9 => h9) rfl d_AB_newCapacity_54 ?_
  refine lv_ishr hx hb d_AB_newCapacity_57 ?_
  refine W.eq (congrArg (fun z => F0 m 58 ls (.int z :: [])) (by decide : ((142 : Int32) >>> ((0 : Int32) &&& 31)) = 142)) ?_
  exact W.iret (v := 142) hx hb hr (fun t ht hW => ⟨142, rfl, rfl, ht⟩) (fun q h => absurd h List.not_mem_nil) d_AB_newCapacity_58
set_option maxHeartbeats 1000000 in
set_option maxRecDepth 100000 in
theorem q_AB_newCapacity_142 (l : Launch) (dC : Nat → ClassId) (dI : Nat → Nat → Nat) (x : Nat) (bv : Nat) (ml : Int32) (n : Nat) (cB : ClassId) (f : Nat → Int32) : Met l y_AB_newCapacity ws_AB_newCapacity ({ frames := 2, cells := 0, slots := 0, locals := 37 }) (va_Pc [.ref x, .int 143] (fun U => va_P (dC, dI) vwCl [(x, .inr (13, [.ref bv, .int 0, .int ml, .int (nI n)])), (bv, .inl (cB, 142, .inl f))] U.heap ∧ va_K (dC, dI) vwCl [(cB, .byte)] U)) (vp_Si (fun (r : Int32) => r = 286)) 0 0 (fun _ => False) := by
  refine Met.ofW (cc := c_AB_newCapacity) (maxL := 6) (ret := (some .int)) (by decide) rfl ?_
  intro p e s m args below meth c s₁ B hml hv
  obtain ⟨rfl, hP, hK⟩ := hv
  have hx := B.exec
  have hb := B.bytes
  have hr := B.returns
  have hts := atoms_spec (ws := ws_AB_newCapacity) B.pre
  have htb := fun w (h : w ∈ TBL) => hts w (List.mem_cons_of_mem _ h)
  have hown : s.vm.findClass R_AB = some m.cls := findClass_of_methodNamed B.named
  have hlocks := B.notSynchronized
  have hl := lv_entry ([.ref x, .int 143]) (n := 6) (Nat.le_of_ble_eq_true rfl)
  rw [lg_entry_eq]
  generalize (lg_sl ([.ref x, .int 143]) ++ List.replicate (6 - (lg_sl ([.ref x, .int 143])).length) Slot.unset).toArray = ls at hl ⊢
  have hl : lv_has ls 6 [(0, .ref x), (1, .int 143)] := hl
  refine lv_aload_n hx hb d_AB_newCapacity_0 rfl (lv_at hl 0 rfl) ?_
  refine va_get (D := (dC, dI)) (ci := 13) (v := .ref bv) (C := R_SB) (T := T_SB) (N := 4) hx hb htb in_SB hown hK hP 0 rfl rfl 0 (by decide) (htb _ m_55) (fun _ h9 => h9) rfl d_AB_newCapacity_1 ?_
  refine va_alen (v := 142) hx hb hK hP 1 0 rfl rfl rfl d_AB_newCapacity_4 ?_
  refine lv_istore_n hx hb d_AB_newCapacity_5 rfl hl (by decide) rfl (fun ls hl => ?_)
  have hl : lv_has ls 6 [(2, .int 142), (0, .ref x), (1, .int 143)] := hl
  refine lv_iload_n hx hb d_AB_newCapacity_6 rfl (lv_at hl 2 rfl) ?_
  refine lv_aload_n hx hb d_AB_newCapacity_7 rfl (lv_at hl 1 rfl) ?_
  refine va_get (D := (dC, dI)) (ci := 13) (v := .int 0) (C := R_SB) (T := T_SB) (N := 4) hx hb htb in_SB hown hK hP 0 rfl rfl 1 (by decide) (htb _ m_56) (fun _ h9 => h9) rfl d_AB_newCapacity_8 ?_
  refine lv_ishl hx hb d_AB_newCapacity_11 ?_
  refine W.eq (congrArg (fun z => F0 m 12 ls (.int z :: [])) (by decide : ((143 : Int32) <<< ((0 : Int32) &&& 31)) = 143)) ?_
  refine lv_istore_n hx hb d_AB_newCapacity_12 rfl hl (by decide) rfl (fun ls hl => ?_)
  have hl : lv_has ls 6 [(3, .int 143), (2, .int 142), (0, .ref x), (1, .int 143)] := hl
  refine lv_iload_n hx hb d_AB_newCapacity_13 rfl (lv_at hl 0 rfl) ?_
  refine lv_iload_n hx hb d_AB_newCapacity_14 rfl (lv_at hl 1 rfl) ?_
  refine lv_isub hx hb d_AB_newCapacity_15 ?_
  refine W.eq (congrArg (fun z => F0 m 16 ls (.int z :: [])) (by decide : ((143 : Int32) - 142) = 1)) ?_
  refine lv_istore hx hb d_AB_newCapacity_16 hl (by decide) rfl (fun ls hl => ?_)
  have hl : lv_has ls 6 [(4, .int 1), (3, .int 143), (2, .int 142), (0, .ref x), (1, .int 143)] := hl
  refine lv_iload_n hx hb d_AB_newCapacity_18 rfl (lv_at hl 2 rfl) ?_
  refine lv_iload hx hb d_AB_newCapacity_19 (lv_at hl 0 rfl) ?_
  refine lv_iload_n hx hb d_AB_newCapacity_21 rfl (lv_at hl 2 rfl) ?_
  refine lv_iconst (v := 2) hx hb d_AB_newCapacity_22 (by decide) ?_
  refine lv_aload_n hx hb d_AB_newCapacity_23 rfl (lv_at hl 3 rfl) ?_
  refine va_get (D := (dC, dI)) (ci := 13) (v := .int 0) (C := R_SB) (T := T_SB) (N := 4) hx hb htb in_SB hown hK hP 0 rfl rfl 1 (by decide) (htb _ m_56) (fun _ h9 => h9) rfl d_AB_newCapacity_24 ?_
  refine lv_ishl hx hb d_AB_newCapacity_27 ?_
  refine W.eq (congrArg (fun z => F0 m 28 ls (.int z :: [.int 142, .int 1, .int 142])) (by decide : ((2 : Int32) <<< ((0 : Int32) &&& 31)) = 2)) ?_
  refine lv_iadd hx hb d_AB_newCapacity_28 ?_
  refine W.eq (congrArg (fun z => F0 m 29 ls (.int z :: [.int 1, .int 142])) (by decide : ((142 : Int32) + 2) = 144)) ?_
  have hPc : va_P (dC, dI) vwCl [] _ := hP.sub (ws' := []) [] rfl
  have hKc := hK.sub (tys' := []) [] rfl
  refine vp_callSi (W.runS (As := [.int (nI 142), .int (nI 1), .int (nI 144)]) (rest := []) ⟨hx, hb, hml, hown, htb⟩ (q_AS_newLength l dC dI 142 1 144 (by decide) (by decide) (by decide) (by decide)) (va_cwS 3 htb (g_S (fun _ h => h) m_210 m_208 m_209 m_12) rfl rfl rfl (by decide +kernel) ⟨Nat.le_of_ble_eq_true rfl, Nat.le_of_ble_eq_true rfl⟩) ⟨fun a U g mk q => by obtain ⟨q0, qP, qK⟩ := q; exact ⟨q0, qP, va_K.moved (u := U) (U := U.calling g mk a) (Vm.Alike.refl U.vm) qK⟩, fun U hU hW => ⟨rfl, by rw [hU]; exact hPc, va_K.moved hW.alike hKc⟩⟩ rfl rfl hl.1 rfl (lv_room (Nat.le_of_ble_eq_true rfl)) d_AB_newCapacity_29 ⟨Nat.le_of_ble_eq_true rfl, Nat.le_of_ble_eq_true rfl⟩) (fun r1 hw2 => ?_)
  have hw2 : r1 = nI (142 + Nat.max 1 144) := hw2
  obtain rfl : r1 = (286 : Int32) := hw2.trans (by decide)
  refine lv_istore hx hb d_AB_newCapacity_32 hl (by decide) rfl (fun ls hl => ?_)
  have hl : lv_has ls 6 [(5, .int 286), (4, .int 1), (3, .int 143), (2, .int 142), (0, .ref x), (1, .int 143)] := hl
  refine lv_iload hx hb d_AB_newCapacity_34 (lv_at hl 0 rfl) ?_
  refine lv_ldc (v := 2147483647) hx hb hown (htb _ m_218) d_AB_newCapacity_36 ?_
  refine lv_icmp_ne (tgt := 51) hx hb d_AB_newCapacity_38 rfl (fun _ => ?_) (fun h9 => absurd h9 (by decide))
  refine lv_iload hx hb d_AB_newCapacity_51 (lv_at hl 0 rfl) ?_
  refine lv_aload_n hx hb d_AB_newCapacity_53 rfl (lv_at hl 4 rfl) ?_
  refine va_get (D := (dC, dI)) (ci := 13) (v := .int 0) (C := R_SB) (T := T_SB) (N := 4) hx hb htb in_SB hown hK hP 0 rfl rfl 1 (by decide) (htb _ m_56) (fun _ h9 => h9) rfl d_AB_newCapacity_54 ?_
  refine lv_ishr hx hb d_AB_newCapacity_57 ?_
  refine W.eq (congrArg (fun z => F0 m 58 ls (.int z :: [])) (by decide : ((286 : Int32) >>> ((0 : Int32) &&& 31)) = 286)) ?_
  exact W.iret (v := 286) hx hb hr (fun t ht hW => ⟨286, rfl, rfl, ht⟩) (fun q h => absurd h List.not_mem_nil) d_AB_newCapacity_58
