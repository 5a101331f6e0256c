theorem g_SU {Ts : List Cond} (hT : ∀ w ∈ TBL, w ∈ Ts) {v : Cond} (hv : v ∈ TBL) {own : String} {i : Nat} {y : MethodName} (h1 : Cond.methodLink own i y ∈ TBL) (h2 : Cond.sameMethod y.cls y.cls y.name y.desc ∈ TBL) (h3 : Cond.superclass own y.cls ∈ TBL) (h4 : Cond.instanceMethod y ∈ TBL) (h5 : Cond.initialized y.cls ∈ TBL) : GoodIn Ts (va_wsSU own i y (v :: TBL)) := by
  intro w h
  unfold va_wsSU at h
  rcases List.mem_append.mp h with h | h
  · simp only [List.mem_cons, List.not_mem_nil, or_false] at h
    rcases h with rfl | rfl | rfl | rfl | rfl
    · exact ⟨hT _ h1, tb_ok h1⟩
    · exact ⟨hT _ h2, tb_ok h2⟩
    · exact ⟨hT _ h3, tb_ok h3⟩
    · exact ⟨hT _ h4, tb_ok h4⟩
    · exact ⟨hT _ h5, tb_ok h5⟩
  · exact g_all hT hv w h
set_option maxHeartbeats 1000000 in
set_option maxRecDepth 100000 in
/-- append(c) where there is room -/
theorem k_AB_append_fit (l : Launch) (dC : Nat → ClassId) (dI : Nat → Nat → Nat) (sz : Nat) (x : Nat) (bv : Nat) (ml : Int32) (n : Nat) (cB : ClassId) (f : Nat → Int32) (cap : Nat) (ch : Nat) (em : Nat) (aK : Nat → Nat) (aV : Nat → Nat) (hn : n < cap) (hc : cap ≤ 286) (hch : ch < 128) : Met l y_AB_append ws_AB_append ({ frames := 1, cells := 0, slots := 0, locals := 22 }) (va_Pc [.ref x, .int (nI ch)] (fun U => U.heap.size = sz ∧ va_P (dC, dI) vwCl [(x, .inr (13, [.ref bv, .int 0, .int ml, .int (nI n)])), (bv, .inl (cB, cap, .inl f))] U.heap ∧ va_K (dC, dI) vwCl [(cB, .byte)] U ∧ va_D (fun _ => True) [(x, .inr (13, [.ref bv, .int 0, .int ml, .int (nI n)])), (bv, .inl (cB, cap, .inl f))] ∧ EX em aK aV (va_A [(x, .inr (13, [.ref bv, .int 0, .int ml, .int (nI n)])), (bv, .inl (cB, cap, .inl f))] sz) U U.heap)) (va_Qr (fun (u : Unit) => True) (fun u ra t => va_P (dC, dI) vwCl [(x, .inr (13, [.ref bv, .int 0, .int ml, .int (nI (n + 1))])), (bv, .inl (cB, cap, .inl (upd f n (sb_b ch))))] t.heap ∧ va_K (dC, dI) vwCl [(cB, .byte)] t ∧ va_D (va_A [(x, .inr (13, [.ref bv, .int 0, .int ml, .int (nI n)])), (bv, .inl (cB, cap, .inl f))] sz) [(x, .inr (13, [.ref bv, .int 0, .int ml, .int (nI (n + 1))])), (bv, .inl (cB, cap, .inl (upd f n (sb_b ch))))]) (va_A [(x, .inr (13, [.ref bv, .int 0, .int ml, .int (nI n)])), (bv, .inl (cB, cap, .inl f))] sz)) 0 0 (va_A [(x, .inr (13, [.ref bv, .int 0, .int ml, .int (nI n)])), (bv, .inl (cB, cap, .inl f))] sz) := by
  refine Met.ofW (cc := c_AB_append) (maxL := 2) (ret := (some (.object "java/lang/AbstractStringBuilder"))) (by decide) rfl ?_
  intro p e s m args below meth c s₁ B hml hv
  obtain ⟨rfl, hsz, hP, hK, hD0, hE⟩ := hv
  have hx := B.exec
  have hb := B.bytes
  have hr := B.returns
  have hts := atoms_spec (ws := ws_AB_append) B.pre
  have htb := fun w (h : w ∈ TBL) => hts w (List.mem_cons_of_mem _ h)
  have hown : s.vm.findClass R_AB = some m.cls := findClass_of_methodNamed B.named
  have hlocks := B.notSynchronized
  subst hsz
  have hD := hD0.self (sz := s.heap.size)
  generalize hAe : va_A [(x, .inr (13, [.ref bv, .int 0, .int ml, .int (nI n)])), (bv, .inl (cB, cap, .inl f))] s.heap.size = A at hD hE ⊢
  have hA : ∀ q : Nat, s.heap.size ≤ q → A q := fun q h => by rw [← hAe]; exact Or.inr h
  have hS : va_S A s.heap s.heap [] := va_S.rf
  have hP : va_P (dC, dI) vwCl [(x, .inr (13, [.ref bv, .int 0, .int ml, .int (nI n)])), (bv, .inl (cB, cap, .inl f))] s.heap := hP
  have hl := lv_entry ([.ref x, .int (nI ch)]) (n := 2) (Nat.le_of_ble_eq_true rfl)
  rw [lg_entry_eq]
  generalize (lg_sl ([.ref x, .int (nI ch)]) ++ List.replicate (2 - (lg_sl ([.ref x, .int (nI ch)])).length) Slot.unset).toArray = ls at hl ⊢
  have hl : lv_has ls 2 [(0, .ref x), (1, .int (nI ch))] := hl
  refine lv_aload_n hx hb d_AB_append_0 rfl (lv_at hl 0 rfl) ?_
  refine lv_aload_n hx hb d_AB_append_1 rfl (lv_at hl 0 rfl) ?_
  refine va_get (D := (dC, dI)) (ci := 13) (v := .int (nI n)) (C := R_SB) (T := T_SB) (N := 4) hx hb htb in_SB hown hK hP 0 rfl rfl 3 (by decide) (htb _ m_59) (fun _ h9 => h9) rfl d_AB_append_2 ?_
  refine lv_iconst (v := 1) hx hb d_AB_append_5 (by decide) ?_
  refine lv_iadd hx hb d_AB_append_6 ?_
  refine W.eq (congrArg (fun z => F0 m 7 ls (.int z :: [.ref x])) (nI_1 _ : ((nI n) + 1) = nI (n + 1))) ?_
  have hPc : va_P (dC, dI) vwCl [(x, .inr (13, [.ref bv, .int 0, .int ml, .int (nI n)])), (bv, .inl (cB, cap, .inl f))] _ := hP.sub (ws' := [(x, .inr (13, [.ref bv, .int 0, .int ml, .int (nI n)])), (bv, .inl (cB, cap, .inl f))]) [0, 1] rfl
  have hKc := hK.sub (tys' := [(cB, .byte)]) [0] rfl
  refine va_csv (va_Run.run (va_runU (As := [.int (nI (n + 1))]) (rest := []) ⟨hx, hb, hml, hown, htb⟩ (q_AB_fit l dC dI x bv ml n cB f cap (n + 1) (by omega) hc) (va_cwU 1 htb (g_U (fun _ h => h) m_203 m_200 m_1600 m_1713 m_202 m_2) rfl rfl rfl rfl (by decide +kernel) ⟨Nat.le_of_ble_eq_true rfl, Nat.le_of_ble_eq_true rfl⟩) ⟨fun a U g mk q => by obtain ⟨q0, qP, qK⟩ := q; exact ⟨q0, qP, va_K.moved (u := U) (U := U.calling g mk a) (Vm.Alike.refl U.vm) qK⟩, va_recv hKc hPc (ci := 13) rfl (q0 := 0) rfl, fun U hU hW => ⟨rfl, by rw [hU]; exact hPc, va_K.moved hW.alike hKc⟩⟩ rfl rfl hl.1 rfl (lv_room (Nat.le_of_ble_eq_true rfl)) d_AB_append_7 ⟨Nat.le_of_ble_eq_true rfl, Nat.le_of_ble_eq_true rfl⟩)) (fun hw2 => ?_)
  have hw2 : True := hw2
  refine lv_aload_n hx hb d_AB_append_10 rfl (lv_at hl 0 rfl) ?_
  have hPc : va_P (dC, dI) vwCl [(x, .inr (13, [.ref bv, .int 0, .int ml, .int (nI n)]))] _ := hP.sub (ws' := [(x, .inr (13, [.ref bv, .int 0, .int ml, .int (nI n)]))]) [0] rfl
  have hKc := hK.sub (tys' := []) [] rfl
  refine vp_callSi (va_Run.run (va_runU (As := []) (rest := []) ⟨hx, hb, hml, hown, htb⟩ (q_AB_isLatin1 l dC dI x bv ml n em aK aV A ) (va_cwU 0 htb (g_U (fun _ h => h) m_239 m_235 m_237 m_238 m_236 m_2) rfl rfl rfl rfl (by decide +kernel) ⟨Nat.le_of_ble_eq_true rfl, Nat.le_of_ble_eq_true rfl⟩) ⟨fun a U g mk q => by obtain ⟨q0, qP, qK, z0⟩ := q; exact ⟨q0, qP, va_K.moved (u := U) (U := U.calling g mk a) (Vm.Alike.refl U.vm) qK, EX.same (U := U) (U' := U.calling g mk a) rfl z0⟩, va_recv hKc hPc (ci := 13) rfl (q0 := 0) rfl, fun U hU hW => ⟨rfl, by rw [hU]; exact hPc, va_K.moved hW.alike hKc, by rw [hU]; exact EX.warm hW (hE.kept (fun a h1 h2 => hS.2.1 a h1 h2))⟩⟩ rfl rfl hl.1 rfl (lv_room (Nat.le_of_ble_eq_true rfl)) d_AB_append_11 ⟨Nat.le_of_ble_eq_true rfl, Nat.le_of_ble_eq_true rfl⟩)) (fun r3 hw4 => ?_)
  have hw4 : r3 = 1 := hw4
  refine lv_if_eq (tgt := 45) hx hb d_AB_append_14 rfl (fun h9 => absurd h9 (by rw [hw4]; decide)) (fun _ => ?_)
  refine lv_iload_n hx hb d_AB_append_17 rfl (lv_at hl 1 rfl) ?_
  have hPc : va_P (dC, dI) vwCl [] _ := hP.sub (ws' := []) [] rfl
  have hKc := hK.sub (tys' := []) [] rfl
  refine vp_callSi (W.runS (As := [.int (nI ch)]) (rest := []) ⟨hx, hb, hml, hown, htb⟩ (q_LT_canEncode l dC dI ch hch) (va_cwS 1 htb (g_S (fun _ h => h) m_343 m_341 m_342 m_16) rfl rfl rfl (by decide +kernel) ⟨Nat.le_of_ble_eq_true rfl, Nat.le_of_ble_eq_true rfl⟩) ⟨fun a U g mk q => by obtain ⟨q0, qP, qK⟩ := q; exact ⟨q0, qP, va_K.moved (u := U) (U := U.calling g mk a) (Vm.Alike.refl U.vm) qK⟩, fun U hU hW => ⟨rfl, by rw [hU]; exact hPc, va_K.moved hW.alike hKc⟩⟩ rfl rfl hl.1 rfl (lv_room (Nat.le_of_ble_eq_true rfl)) d_AB_append_18 ⟨Nat.le_of_ble_eq_true rfl, Nat.le_of_ble_eq_true rfl⟩) (fun r5 hw6 => ?_)
  have hw6 : r5 = 1 := hw6
  refine lv_if_eq (tgt := 45) hx hb d_AB_append_21 rfl (fun h9 => absurd h9 (by rw [hw6]; decide)) (fun _ => ?_)
  refine lv_aload_n hx hb d_AB_append_24 rfl (lv_at hl 0 rfl) ?_
  refine va_get (D := (dC, dI)) (ci := 13) (v := .ref bv) (C := R_SB) (T := T_SB) (N := 4) hx hb htb in_SB hown hK hP 0 rfl rfl 0 (by decide) (htb _ m_55) (fun _ h9 => h9) rfl d_AB_append_25 ?_
  refine lv_aload_n hx hb d_AB_append_28 rfl (lv_at hl 0 rfl) ?_
  refine lv_dup hx hb d_AB_append_29 rfl ?_
  refine va_get (D := (dC, dI)) (ci := 13) (v := .int (nI n)) (C := R_SB) (T := T_SB) (N := 4) hx hb htb in_SB hown hK hP 0 rfl rfl 3 (by decide) (htb _ m_59) (fun _ h9 => h9) rfl d_AB_append_30 ?_
  refine lv_dup_x1 hx hb d_AB_append_33 rfl rfl ?_
  refine lv_iconst (v := 1) hx hb d_AB_append_34 (by decide) ?_
  refine lv_iadd hx hb d_AB_append_35 ?_
  refine W.eq (congrArg (fun z => F0 m 36 ls (.int z :: [.ref x, .int (nI n), .ref bv])) (nI_1 _ : ((nI n) + 1) = nI (n + 1))) ?_
  refine va_put (D := (dC, dI)) (ci := 13) (v := .int (nI (n + 1))) (ty := .int) (C := R_SB) (T := T_SB) (N := 4) hx hb htb in_SB ty_SB ty_SB_ok nm_SB hown hK hP hD hS 0 rfl rfl 3 (by decide) (htb _ m_59) (fun _ h9 => h9) rfl (by decide +kernel) rfl rfl (Nat.le_of_ble_eq_true rfl) d_AB_append_36 (fun H locs hP hD hS => ?_)
  have hP : va_P (dC, dI) vwCl [(x, .inr (13, [.ref bv, .int 0, .int ml, .int (nI (n + 1))])), (bv, .inl (cB, cap, .inl f))] H := hP
  have hD : va_D A [(x, .inr (13, [.ref bv, .int 0, .int ml, .int (nI (n + 1))])), (bv, .inl (cB, cap, .inl f))] := hD
  refine lv_iload_n hx hb d_AB_append_39 rfl (lv_at hl 1 rfl) ?_
  refine lv_i2b hx hb d_AB_append_40 rfl ?_
  refine va_bast hx hb hK hP hD hS 1 0 rfl rfl (vp_in_nI hn (by omega)) d_AB_append_41 (fun H locs hP hD hS => ?_)
  rw [(by rw [nI_clamp (by omega), pk_vb]; rfl : upd f (nI n).toNatClampNeg (vp_nar .byte ((nI ch).toInt8.toInt32)) = upd f n (sb_b ch))] at hP hD
  have hP : va_P (dC, dI) vwCl [(x, .inr (13, [.ref bv, .int 0, .int ml, .int (nI (n + 1))])), (bv, .inl (cB, cap, .inl (upd f n (sb_b ch))))] H := hP
  have hD : va_D A [(x, .inr (13, [.ref bv, .int 0, .int ml, .int (nI (n + 1))])), (bv, .inl (cB, cap, .inl (upd f n (sb_b ch))))] := hD
  refine lv_goto (tgt := 75) hx hb d_AB_append_42 rfl ?_
  refine lv_aload_n hx hb d_AB_append_75 rfl (lv_at hl 0 rfl) ?_
  have hP9 := hP.sub (ws' := [(x, .inr (13, [.ref bv, .int 0, .int ml, .int (nI (n + 1))])), (bv, .inl (cB, cap, .inl (upd f n (sb_b ch))))]) [0, 1] rfl
  have hD9 := hD.sub (ws' := [(x, .inr (13, [.ref bv, .int 0, .int ml, .int (nI (n + 1))])), (bv, .inl (cB, cap, .inl (upd f n (sb_b ch))))]) [0, 1] (by decide) rfl
  have hK9 := hK.sub (tys' := [(cB, .byte)]) [0] rfl
  refine W.widen (k := 0) (n := 0) (Nat.le_of_ble_eq_true rfl) (Nat.le_of_ble_eq_true rfl) ?_
  exact W.aret (v := .ref x) hx hb hr (Or.inl ⟨_, rfl⟩) (Or.inr ⟨_, rfl⟩) (fun t ht hW => ⟨⟨(), x, rfl, trivial, ⟨by rw [ht]; exact hP9, va_K.moved hW.alike hK9, hD9⟩⟩, hS.F ht⟩) hS.2.2 d_AB_append_76
set_option maxHeartbeats 1000000 in
set_option maxRecDepth 100000 in
/-- append(c) behind 16 letters: the table grows -/
theorem k_AB_append_grow_16 (l : Launch) (dC : Nat → ClassId) (dI : Nat → Nat → Nat) (sz : Nat) (x : Nat) (bv : Nat) (ml : Int32) (cB : ClassId) (f : Nat → Int32) (ch : Nat) (em : Nat) (aK : Nat → Nat) (aV : Nat → Nat) (hf : sb_Fit f) (hch : ch < 128) : Met l y_AB_append ws_AB_append ({ frames := 4, cells := 1, slots := 34, locals := 84 }) (va_Pc [.ref x, .int (nI ch)] (fun U => U.heap.size = sz ∧ va_P (dC, dI) vwCl [(x, .inr (13, [.ref bv, .int 0, .int ml, .int 16])), (bv, .inl (cB, 16, .inl f))] U.heap ∧ va_K (dC, dI) vwCl [(cB, .byte)] U ∧ va_D (fun _ => True) [(x, .inr (13, [.ref bv, .int 0, .int ml, .int 16])), (bv, .inl (cB, 16, .inl f))] ∧ EX em aK aV (va_A [(x, .inr (13, [.ref bv, .int 0, .int ml, .int 16])), (bv, .inl (cB, 16, .inl f))] sz) U U.heap)) (va_Qr (fun (u : Unit) => True) (fun u ra t => ∃ (bw : Nat), va_P (dC, dI) vwCl [(x, .inr (13, [.ref bw, .int 0, .int ml, .int 17])), (bw, .inl (cB, 34, .inl (upd (va_cpy f (fun _ => 0) 0 0 16) 16 (sb_b ch))))] t.heap ∧ va_K (dC, dI) vwCl [(cB, .byte)] t ∧ va_D (va_A [(x, .inr (13, [.ref bv, .int 0, .int ml, .int 16])), (bv, .inl (cB, 16, .inl f))] sz) [(x, .inr (13, [.ref bw, .int 0, .int ml, .int 17])), (bw, .inl (cB, 34, .inl (upd (va_cpy f (fun _ => 0) 0 0 16) 16 (sb_b ch))))]) (va_A [(x, .inr (13, [.ref bv, .int 0, .int ml, .int 16])), (bv, .inl (cB, 16, .inl f))] sz)) 1 34 (va_A [(x, .inr (13, [.ref bv, .int 0, .int ml, .int 16])), (bv, .inl (cB, 16, .inl f))] sz) := by
  refine Met.ofW (cc := c_AB_append) (maxL := 2) (ret := (some (.object "java/lang/AbstractStringBuilder"))) (by decide) rfl ?_
  intro p e s m args below meth c s₁ B hml hv
  obtain ⟨rfl, hsz, hP, hK, hD0, hE⟩ := hv
  have hx := B.exec
  have hb := B.bytes
  have hr := B.returns
  have hts := atoms_spec (ws := ws_AB_append) B.pre
  have htb := fun w (h : w ∈ TBL) => hts w (List.mem_cons_of_mem _ h)
  have hown : s.vm.findClass R_AB = some m.cls := findClass_of_methodNamed B.named
  have hlocks := B.notSynchronized
  subst hsz
  have hD := hD0.self (sz := s.heap.size)
  generalize hAe : va_A [(x, .inr (13, [.ref bv, .int 0, .int ml, .int 16])), (bv, .inl (cB, 16, .inl f))] s.heap.size = A at hD hE ⊢
  have hA : ∀ q : Nat, s.heap.size ≤ q → A q := fun q h => by rw [← hAe]; exact Or.inr h
  have hS : va_S A s.heap s.heap [] := va_S.rf
  have hP : va_P (dC, dI) vwCl [(x, .inr (13, [.ref bv, .int 0, .int ml, .int 16])), (bv, .inl (cB, 16, .inl f))] s.heap := hP
  have hl := lv_entry ([.ref x, .int (nI ch)]) (n := 2) (Nat.le_of_ble_eq_true rfl)
  rw [lg_entry_eq]
  generalize (lg_sl ([.ref x, .int (nI ch)]) ++ List.replicate (2 - (lg_sl ([.ref x, .int (nI ch)])).length) Slot.unset).toArray = ls at hl ⊢
  have hl : lv_has ls 2 [(0, .ref x), (1, .int (nI ch))] := hl
  refine lv_aload_n hx hb d_AB_append_0 rfl (lv_at hl 0 rfl) ?_
  refine lv_aload_n hx hb d_AB_append_1 rfl (lv_at hl 0 rfl) ?_
  refine va_get (D := (dC, dI)) (ci := 13) (v := .int 16) (C := R_SB) (T := T_SB) (N := 4) hx hb htb in_SB hown hK hP 0 rfl rfl 3 (by decide) (htb _ m_59) (fun _ h9 => h9) rfl d_AB_append_2 ?_
  refine lv_iconst (v := 1) hx hb d_AB_append_5 (by decide) ?_
  refine lv_iadd hx hb d_AB_append_6 ?_
  refine W.eq (congrArg (fun z => F0 m 7 ls (.int z :: [.ref x])) (by decide : ((16 : Int32) + 1) = 17)) ?_
  have hPc := hP.sub (ws' := [(x, .inr (13, [.ref bv, .int 0, .int ml, .int (nI 16)])), (bv, .inl (cB, 16, .inl f))]) [0, 1] rfl
  have hDc := hD.sub (ws' := [(x, .inr (13, [.ref bv, .int 0, .int ml, .int (nI 16)])), (bv, .inl (cB, 16, .inl f))]) [0, 1] (by decide) rfl
  have hFc := va_free (wc := [(x, .inr (13, [.ref bv, .int 0, .int ml, .int (nI 16)])), (bv, .inl (cB, 16, .inl f))]) hD hS hA [0, 1] rfl
  have hKc := hK.sub (tys' := [(cB, .byte)]) [0] rfl
  refine va_callv (va_runU (As := [.int 17]) (rest := []) ⟨hx, hb, hml, hown, htb⟩ (k_AB_grow_16 l dC dI _ x bv ml 16 cB f hf) (va_cwU 1 htb (g_U (fun _ h => h) m_203 m_200 m_1600 m_1713 m_202 m_2) rfl rfl rfl rfl (by decide +kernel) ⟨Nat.le_of_ble_eq_true rfl, Nat.le_of_ble_eq_true rfl⟩) ⟨fun a U g mk q => by obtain ⟨q0, q1, qP, qK, qD⟩ := q; exact ⟨q0, q1, qP, va_K.moved (u := U) (U := U.calling g mk a) (Vm.Alike.refl U.vm) qK, qD⟩, va_recv hK hP (ci := 13) rfl (q0 := 0) rfl, fun U hU hW => ⟨rfl, by rw [hU], by rw [hU]; exact hPc, va_K.moved hW.alike hKc, hDc.weaken (fun _ _ _ _ => trivial)⟩⟩ rfl rfl hl.1 rfl (lv_room (Nat.le_of_ble_eq_true rfl)) d_AB_append_7 ⟨Nat.le_of_ble_eq_true rfl, Nat.le_of_ble_eq_true rfl⟩) hS (fun q _ h => hFc q h) hFc (fun u1 t H1 locs ht hvm hw3 hB hz1 hk1 hS => ?_)
  obtain ⟨x5, hP1, hK1, hD1⟩ := hB
  rw [ht] at hP1
  have hK1 := va_K.moved hvm.symm hK1
  have hw3 : True := hw3
  obtain ⟨hP, hD⟩ := va_join (wr := []) (w1 := [(x, .inr (13, [.ref x5, .int 0, .int ml, .int (nI 16)])), (x5, .inl (cB, 34, .inl (va_cpy f (fun _ => 0) 0 0 16)))]) hP hD [0, 1] [] rfl rfl (by decide) (by decide) hk1 hFc hP1 hD1
  have hK := (hK.sub (tys' := []) [] rfl).app hK1
  generalize H1 = H at hP hS ⊢
  have hP : va_P (dC, dI) vwCl [(x, .inr (13, [.ref x5, .int 0, .int ml, .int (nI 16)])), (x5, .inl (cB, 34, .inl (va_cpy f (fun _ => 0) 0 0 16)))] H := hP
  have hD : va_D A [(x, .inr (13, [.ref x5, .int 0, .int ml, .int (nI 16)])), (x5, .inl (cB, 34, .inl (va_cpy f (fun _ => 0) 0 0 16)))] := hD
  have hK : va_K (dC, dI) vwCl [(cB, .byte)] s := hK
  refine W.widen (k := 1) (n := 34) (Nat.le_of_ble_eq_true rfl) (Nat.le_of_ble_eq_true rfl) ?_
  refine lv_aload_n hx hb d_AB_append_10 rfl (lv_at hl 0 rfl) ?_
  have hPc : va_P (dC, dI) vwCl [(x, .inr (13, [.ref x5, .int 0, .int ml, .int (nI 16)]))] _ := hP.sub (ws' := [(x, .inr (13, [.ref x5, .int 0, .int ml, .int (nI 16)]))]) [0] rfl
  have hKc := hK.sub (tys' := []) [] rfl
  refine vp_callSi (va_Run.run (va_runU (As := []) (rest := []) ⟨hx, hb, hml, hown, htb⟩ (q_AB_isLatin1 l dC dI x x5 ml 16 em aK aV A ) (va_cwU 0 htb (g_U (fun _ h => h) m_239 m_235 m_237 m_238 m_236 m_2) rfl rfl rfl rfl (by decide +kernel) ⟨Nat.le_of_ble_eq_true rfl, Nat.le_of_ble_eq_true rfl⟩) ⟨fun a U g mk q => by obtain ⟨q0, qP, qK, z0⟩ := q; exact ⟨q0, qP, va_K.moved (u := U) (U := U.calling g mk a) (Vm.Alike.refl U.vm) qK, EX.same (U := U) (U' := U.calling g mk a) rfl z0⟩, va_recv hKc hPc (ci := 13) rfl (q0 := 0) rfl, fun U hU hW => ⟨rfl, by rw [hU]; exact hPc, va_K.moved hW.alike hKc, by rw [hU]; exact EX.warm hW (hE.kept (fun a h1 h2 => hS.2.1 a h1 h2))⟩⟩ rfl rfl hl.1 rfl (lv_room (Nat.le_of_ble_eq_true rfl)) d_AB_append_11 ⟨Nat.le_of_ble_eq_true rfl, Nat.le_of_ble_eq_true rfl⟩)) (fun r6 hw7 => ?_)
  have hw7 : r6 = 1 := hw7
  refine lv_if_eq (tgt := 45) hx hb d_AB_append_14 rfl (fun h9 => absurd h9 (by rw [hw7]; decide)) (fun _ => ?_)
  refine lv_iload_n hx hb d_AB_append_17 rfl (lv_at hl 1 rfl) ?_
  have hPc : va_P (dC, dI) vwCl [] _ := hP.sub (ws' := []) [] rfl
  have hKc := hK.sub (tys' := []) [] rfl
  refine vp_callSi (W.runS (As := [.int (nI ch)]) (rest := []) ⟨hx, hb, hml, hown, htb⟩ (q_LT_canEncode l dC dI ch hch) (va_cwS 1 htb (g_S (fun _ h => h) m_343 m_341 m_342 m_16) rfl rfl rfl (by decide +kernel) ⟨Nat.le_of_ble_eq_true rfl, Nat.le_of_ble_eq_true rfl⟩) ⟨fun a U g mk q => by obtain ⟨q0, qP, qK⟩ := q; exact ⟨q0, qP, va_K.moved (u := U) (U := U.calling g mk a) (Vm.Alike.refl U.vm) qK⟩, fun U hU hW => ⟨rfl, by rw [hU]; exact hPc, va_K.moved hW.alike hKc⟩⟩ rfl rfl hl.1 rfl (lv_room (Nat.le_of_ble_eq_true rfl)) d_AB_append_18 ⟨Nat.le_of_ble_eq_true rfl, Nat.le_of_ble_eq_true rfl⟩) (fun r8 hw9 => ?_)
  have hw9 : r8 = 1 := hw9
  refine lv_if_eq (tgt := 45) hx hb d_AB_append_21 rfl (fun h9 => absurd h9 (by rw [hw9]; decide)) (fun _ => ?_)
  refine lv_aload_n hx hb d_AB_append_24 rfl (lv_at hl 0 rfl) ?_
  refine va_get (D := (dC, dI)) (ci := 13) (v := .ref x5) (C := R_SB) (T := T_SB) (N := 4) hx hb htb in_SB hown hK hP 0 rfl rfl 0 (by decide) (htb _ m_55) (fun _ h9 => h9) rfl d_AB_append_25 ?_
  refine lv_aload_n hx hb d_AB_append_28 rfl (lv_at hl 0 rfl) ?_
  refine lv_dup hx hb d_AB_append_29 rfl ?_
  refine va_get (D := (dC, dI)) (ci := 13) (v := .int (nI 16)) (C := R_SB) (T := T_SB) (N := 4) hx hb htb in_SB hown hK hP 0 rfl rfl 3 (by decide) (htb _ m_59) (fun _ h9 => h9) rfl d_AB_append_30 ?_
  refine lv_dup_x1 hx hb d_AB_append_33 rfl rfl ?_
  refine lv_iconst (v := 1) hx hb d_AB_append_34 (by decide) ?_
  refine lv_iadd hx hb d_AB_append_35 ?_
  refine W.eq (congrArg (fun z => F0 m 36 ls (.int z :: [.ref x, .int (nI 16), .ref x5])) (by decide : ((nI 16) + 1) = 17)) ?_
  refine va_put (D := (dC, dI)) (ci := 13) (v := .int 17) (ty := .int) (C := R_SB) (T := T_SB) (N := 4) hx hb htb in_SB ty_SB ty_SB_ok nm_SB hown hK hP hD hS 0 rfl rfl 3 (by decide) (htb _ m_59) (fun _ h9 => h9) rfl (by decide +kernel) rfl rfl (Nat.le_of_ble_eq_true rfl) d_AB_append_36 (fun H locs hP hD hS => ?_)
  have hP : va_P (dC, dI) vwCl [(x, .inr (13, [.ref x5, .int 0, .int ml, .int 17])), (x5, .inl (cB, 34, .inl (va_cpy f (fun _ => 0) 0 0 16)))] H := hP
  have hD : va_D A [(x, .inr (13, [.ref x5, .int 0, .int ml, .int 17])), (x5, .inl (cB, 34, .inl (va_cpy f (fun _ => 0) 0 0 16)))] := hD
  refine lv_iload_n hx hb d_AB_append_39 rfl (lv_at hl 1 rfl) ?_
  refine lv_i2b hx hb d_AB_append_40 rfl ?_
  refine va_bast hx hb hK hP hD hS 1 0 rfl rfl (vp_in_iff.mpr (by decide)) d_AB_append_41 (fun H locs hP hD hS => ?_)
  rw [(by rw [pk_vb]; rfl : upd (va_cpy f (fun _ => 0) 0 0 16) (nI 16).toNatClampNeg (vp_nar .byte ((nI ch).toInt8.toInt32)) = upd (va_cpy f (fun _ => 0) 0 0 16) 16 (sb_b ch))] at hP hD
  have hP : va_P (dC, dI) vwCl [(x, .inr (13, [.ref x5, .int 0, .int ml, .int 17])), (x5, .inl (cB, 34, .inl (upd (va_cpy f (fun _ => 0) 0 0 16) 16 (sb_b ch))))] H := hP
  have hD : va_D A [(x, .inr (13, [.ref x5, .int 0, .int ml, .int 17])), (x5, .inl (cB, 34, .inl (upd (va_cpy f (fun _ => 0) 0 0 16) 16 (sb_b ch))))] := hD
  refine lv_goto (tgt := 75) hx hb d_AB_append_42 rfl ?_
  refine lv_aload_n hx hb d_AB_append_75 rfl (lv_at hl 0 rfl) ?_
  have hP9 := hP.sub (ws' := [(x, .inr (13, [.ref x5, .int 0, .int ml, .int 17])), (x5, .inl (cB, 34, .inl (upd (va_cpy f (fun _ => 0) 0 0 16) 16 (sb_b ch))))]) [0, 1] rfl
  have hD9 := hD.sub (ws' := [(x, .inr (13, [.ref x5, .int 0, .int ml, .int 17])), (x5, .inl (cB, 34, .inl (upd (va_cpy f (fun _ => 0) 0 0 16) 16 (sb_b ch))))]) [0, 1] (by decide) rfl
  have hK9 := hK.sub (tys' := [(cB, .byte)]) [0] rfl
  refine W.widen (k := 1) (n := 34) (Nat.le_of_ble_eq_true rfl) (Nat.le_of_ble_eq_true rfl) ?_
  exact W.aret (v := .ref x) hx hb hr (Or.inl ⟨_, rfl⟩) (Or.inr ⟨_, rfl⟩) (fun t ht hW => ⟨⟨(), x, rfl, trivial, ⟨x5, by rw [ht]; exact hP9, va_K.moved hW.alike hK9, hD9⟩⟩, hS.F ht⟩) hS.2.2 d_AB_append_76
set_option maxHeartbeats 1000000 in
set_option maxRecDepth 100000 in
/-- append(c) behind 34 letters: the table grows -/
theorem k_AB_append_grow_34 (l : Launch) (dC : Nat → ClassId) (dI : Nat → Nat → Nat) (sz : Nat) (x : Nat) (bv : Nat) (ml : Int32) (cB : ClassId) (f : Nat → Int32) (ch : Nat) (em : Nat) (aK : Nat → Nat) (aV : Nat → Nat) (hf : sb_Fit f) (hch : ch < 128) : Met l y_AB_append ws_AB_append ({ frames := 4, cells := 1, slots := 70, locals := 84 }) (va_Pc [.ref x, .int (nI ch)] (fun U => U.heap.size = sz ∧ va_P (dC, dI) vwCl [(x, .inr (13, [.ref bv, .int 0, .int ml, .int 34])), (bv, .inl (cB, 34, .inl f))] U.heap ∧ va_K (dC, dI) vwCl [(cB, .byte)] U ∧ va_D (fun _ => True) [(x, .inr (13, [.ref bv, .int 0, .int ml, .int 34])), (bv, .inl (cB, 34, .inl f))] ∧ EX em aK aV (va_A [(x, .inr (13, [.ref bv, .int 0, .int ml, .int 34])), (bv, .inl (cB, 34, .inl f))] sz) U U.heap)) (va_Qr (fun (u : Unit) => True) (fun u ra t => ∃ (bw : Nat), va_P (dC, dI) vwCl [(x, .inr (13, [.ref bw, .int 0, .int ml, .int 35])), (bw, .inl (cB, 70, .inl (upd (va_cpy f (fun _ => 0) 0 0 34) 34 (sb_b ch))))] t.heap ∧ va_K (dC, dI) vwCl [(cB, .byte)] t ∧ va_D (va_A [(x, .inr (13, [.ref bv, .int 0, .int ml, .int 34])), (bv, .inl (cB, 34, .inl f))] sz) [(x, .inr (13, [.ref bw, .int 0, .int ml, .int 35])), (bw, .inl (cB, 70, .inl (upd (va_cpy f (fun _ => 0) 0 0 34) 34 (sb_b ch))))]) (va_A [(x, .inr (13, [.ref bv, .int 0, .int ml, .int 34])), (bv, .inl (cB, 34, .inl f))] sz)) 1 70 (va_A [(x, .inr (13, [.ref bv, .int 0, .int ml, .int 34])), (bv, .inl (cB, 34, .inl f))] sz) := by
  refine Met.ofW (cc := c_AB_append) (maxL := 2) (ret := (some (.object "java/lang/AbstractStringBuilder"))) (by decide) rfl ?_
  intro p e s m args below meth c s₁ B hml hv
  obtain ⟨rfl, hsz, hP, hK, hD0, hE⟩ := hv
  have hx := B.exec
  have hb := B.bytes
  have hr := B.returns
  have hts := atoms_spec (ws := ws_AB_append) B.pre
  have htb := fun w (h : w ∈ TBL) => hts w (List.mem_cons_of_mem _ h)
  have hown : s.vm.findClass R_AB = some m.cls := findClass_of_methodNamed B.named
  have hlocks := B.notSynchronized
  subst hsz
  have hD := hD0.self (sz := s.heap.size)
  generalize hAe : va_A [(x, .inr (13, [.ref bv, .int 0, .int ml, .int 34])), (bv, .inl (cB, 34, .inl f))] s.heap.size = A at hD hE ⊢
  have hA : ∀ q : Nat, s.heap.size ≤ q → A q := fun q h => by rw [← hAe]; exact Or.inr h
  have hS : va_S A s.heap s.heap [] := va_S.rf
  have hP : va_P (dC, dI) vwCl [(x, .inr (13, [.ref bv, .int 0, .int ml, .int 34])), (bv, .inl (cB, 34, .inl f))] s.heap := hP
  have hl := lv_entry ([.ref x, .int (nI ch)]) (n := 2) (Nat.le_of_ble_eq_true rfl)
  rw [lg_entry_eq]
  generalize (lg_sl ([.ref x, .int (nI ch)]) ++ List.replicate (2 - (lg_sl ([.ref x, .int (nI ch)])).length) Slot.unset).toArray = ls at hl ⊢
  have hl : lv_has ls 2 [(0, .ref x), (1, .int (nI ch))] := hl
  refine lv_aload_n hx hb d_AB_append_0 rfl (lv_at hl 0 rfl) ?_
  refine lv_aload_n hx hb d_AB_append_1 rfl (lv_at hl 0 rfl) ?_
  refine va_get (D := (dC, dI)) (ci := 13) (v := .int 34) (C := R_SB) (T := T_SB) (N := 4) hx hb htb in_SB hown hK hP 0 rfl rfl 3 (by decide) (htb _ m_59) (fun _ h9 => h9) rfl d_AB_append_2 ?_
  refine lv_iconst (v := 1) hx hb d_AB_append_5 (by decide) ?_
  refine lv_iadd hx hb d_AB_append_6 ?_
  refine W.eq (congrArg (fun z => F0 m 7 ls (.int z :: [.ref x])) (by decide : ((34 : Int32) + 1) = 35)) ?_
  have hPc := hP.sub (ws' := [(x, .inr (13, [.ref bv, .int 0, .int ml, .int (nI 34)])), (bv, .inl (cB, 34, .inl f))]) [0, 1] rfl
  have hDc := hD.sub (ws' := [(x, .inr (13, [.ref bv, .int 0, .int ml, .int (nI 34)])), (bv, .inl (cB, 34, .inl f))]) [0, 1] (by decide) rfl
  have hFc := va_free (wc := [(x, .inr (13, [.ref bv, .int 0, .int ml, .int (nI 34)])), (bv, .inl (cB, 34, .inl f))]) hD hS hA [0, 1] rfl
  have hKc := hK.sub (tys' := [(cB, .byte)]) [0] rfl
  refine va_callv (va_runU (As := [.int 35]) (rest := []) ⟨hx, hb, hml, hown, htb⟩ (k_AB_grow_34 l dC dI _ x bv ml 34 cB f hf) (va_cwU 1 htb (g_U (fun _ h => h) m_203 m_200 m_1600 m_1713 m_202 m_2) rfl rfl rfl rfl (by decide +kernel) ⟨Nat.le_of_ble_eq_true rfl, Nat.le_of_ble_eq_true rfl⟩) ⟨fun a U g mk q => by obtain ⟨q0, q1, qP, qK, qD⟩ := q; exact ⟨q0, q1, qP, va_K.moved (u := U) (U := U.calling g mk a) (Vm.Alike.refl U.vm) qK, qD⟩, va_recv hK hP (ci := 13) rfl (q0 := 0) rfl, fun U hU hW => ⟨rfl, by rw [hU], by rw [hU]; exact hPc, va_K.moved hW.alike hKc, hDc.weaken (fun _ _ _ _ => trivial)⟩⟩ rfl rfl hl.1 rfl (lv_room (Nat.le_of_ble_eq_true rfl)) d_AB_append_7 ⟨Nat.le_of_ble_eq_true rfl, Nat.le_of_ble_eq_true rfl⟩) hS (fun q _ h => hFc q h) hFc (fun u1 t H1 locs ht hvm hw3 hB hz1 hk1 hS => ?_)
  obtain ⟨x5, hP1, hK1, hD1⟩ := hB
  rw [ht] at hP1
  have hK1 := va_K.moved hvm.symm hK1
  have hw3 : True := hw3
  obtain ⟨hP, hD⟩ := va_join (wr := []) (w1 := [(x, .inr (13, [.ref x5, .int 0, .int ml, .int (nI 34)])), (x5, .inl (cB, 70, .inl (va_cpy f (fun _ => 0) 0 0 34)))]) hP hD [0, 1] [] rfl rfl (by decide) (by decide) hk1 hFc hP1 hD1
  have hK := (hK.sub (tys' := []) [] rfl).app hK1
  generalize H1 = H at hP hS ⊢
  have hP : va_P (dC, dI) vwCl [(x, .inr (13, [.ref x5, .int 0, .int ml, .int (nI 34)])), (x5, .inl (cB, 70, .inl (va_cpy f (fun _ => 0) 0 0 34)))] H := hP
  have hD : va_D A [(x, .inr (13, [.ref x5, .int 0, .int ml, .int (nI 34)])), (x5, .inl (cB, 70, .inl (va_cpy f (fun _ => 0) 0 0 34)))] := hD
  have hK : va_K (dC, dI) vwCl [(cB, .byte)] s := hK
  refine W.widen (k := 1) (n := 70) (Nat.le_of_ble_eq_true rfl) (Nat.le_of_ble_eq_true rfl) ?_
  refine lv_aload_n hx hb d_AB_append_10 rfl (lv_at hl 0 rfl) ?_
  have hPc : va_P (dC, dI) vwCl [(x, .inr (13, [.ref x5, .int 0, .int ml, .int (nI 34)]))] _ := hP.sub (ws' := [(x, .inr (13, [.ref x5, .int 0, .int ml, .int (nI 34)]))]) [0] rfl
  have hKc := hK.sub (tys' := []) [] rfl
  refine vp_callSi (va_Run.run (va_runU (As := []) (rest := []) ⟨hx, hb, hml, hown, htb⟩ (q_AB_isLatin1 l dC dI x x5 ml 34 em aK aV A ) (va_cwU 0 htb (g_U (fun _ h => h) m_239 m_235 m_237 m_238 m_236 m_2) rfl rfl rfl rfl (by decide +kernel) ⟨Nat.le_of_ble_eq_true rfl, Nat.le_of_ble_eq_true rfl⟩) ⟨fun a U g mk q => by obtain ⟨q0, qP, qK, z0⟩ := q; exact ⟨q0, qP, va_K.moved (u := U) (U := U.calling g mk a) (Vm.Alike.refl U.vm) qK, EX.same (U := U) (U' := U.calling g mk a) rfl z0⟩, va_recv hKc hPc (ci := 13) rfl (q0 := 0) rfl, fun U hU hW => ⟨rfl, by rw [hU]; exact hPc, va_K.moved hW.alike hKc, by rw [hU]; exact EX.warm hW (hE.kept (fun a h1 h2 => hS.2.1 a h1 h2))⟩⟩ rfl rfl hl.1 rfl (lv_room (Nat.le_of_ble_eq_true rfl)) d_AB_append_11 ⟨Nat.le_of_ble_eq_true rfl, Nat.le_of_ble_eq_true rfl⟩)) (fun r6 hw7 => ?_)
  have hw7 : r6 = 1 := hw7
  refine lv_if_eq (tgt := 45) hx hb d_AB_append_14 rfl (fun h9 => absurd h9 (by rw [hw7]; decide)) (fun _ => ?_)
  refine lv_iload_n hx hb d_AB_append_17 rfl (lv_at hl 1 rfl) ?_
  have hPc : va_P (dC, dI) vwCl [] _ := hP.sub (ws' := []) [] rfl
  have hKc := hK.sub (tys' := []) [] rfl
  refine vp_callSi (W.runS (As := [.int (nI ch)]) (rest := []) ⟨hx, hb, hml, hown, htb⟩ (q_LT_canEncode l dC dI ch hch) (va_cwS 1 htb (g_S (fun _ h => h) m_343 m_341 m_342 m_16) rfl rfl rfl (by decide +kernel) ⟨Nat.le_of_ble_eq_true rfl, Nat.le_of_ble_eq_true rfl⟩) ⟨fun a U g mk q => by obtain ⟨q0, qP, qK⟩ := q; exact ⟨q0, qP, va_K.moved (u := U) (U := U.calling g mk a) (Vm.Alike.refl U.vm) qK⟩, fun U hU hW => ⟨rfl, by rw [hU]; exact hPc, va_K.moved hW.alike hKc⟩⟩ rfl rfl hl.1 rfl (lv_room (Nat.le_of_ble_eq_true rfl)) d_AB_append_18 ⟨Nat.le_of_ble_eq_true rfl, Nat.le_of_ble_eq_true rfl⟩) (fun r8 hw9 => ?_)
  have hw9 : r8 = 1 := hw9
  refine lv_if_eq (tgt := 45) hx hb d_AB_append_21 rfl (fun h9 => absurd h9 (by rw [hw9]; decide)) (fun _ => ?_)
  refine lv_aload_n hx hb d_AB_append_24 rfl (lv_at hl 0 rfl) ?_
  refine va_get (D := (dC, dI)) (ci := 13) (v := .ref x5) (C := R_SB) (T := T_SB) (N := 4) hx hb htb in_SB hown hK hP 0 rfl rfl 0 (by decide) (htb _ m_55) (fun _ h9 => h9) rfl d_AB_append_25 ?_
  refine lv_aload_n hx hb d_AB_append_28 rfl (lv_at hl 0 rfl) ?_
  refine lv_dup hx hb d_AB_append_29 rfl ?_
  refine va_get (D := (dC, dI)) (ci := 13) (v := .int (nI 34)) (C := R_SB) (T := T_SB) (N := 4) hx hb htb in_SB hown hK hP 0 rfl rfl 3 (by decide) (htb _ m_59) (fun _ h9 => h9) rfl d_AB_append_30 ?_
  refine lv_dup_x1 hx hb d_AB_append_33 rfl rfl ?_
  refine lv_iconst (v := 1) hx hb d_AB_append_34 (by decide) ?_
  refine lv_iadd hx hb d_AB_append_35 ?_
  refine W.eq (congrArg (fun z => F0 m 36 ls (.int z :: [.ref x, .int (nI 34), .ref x5])) (by decide : ((nI 34) + 1) = 35)) ?_
  refine va_put (D := (dC, dI)) (ci := 13) (v := .int 35) (ty := .int) (C := R_SB) (T := T_SB) (N := 4) hx hb htb in_SB ty_SB ty_SB_ok nm_SB hown hK hP hD hS 0 rfl rfl 3 (by decide) (htb _ m_59) (fun _ h9 => h9) rfl (by decide +kernel) rfl rfl (Nat.le_of_ble_eq_true rfl) d_AB_append_36 (fun H locs hP hD hS => ?_)
  have hP : va_P (dC, dI) vwCl [(x, .inr (13, [.ref x5, .int 0, .int ml, .int 35])), (x5, .inl (cB, 70, .inl (va_cpy f (fun _ => 0) 0 0 34)))] H := hP
  have hD : va_D A [(x, .inr (13, [.ref x5, .int 0, .int ml, .int 35])), (x5, .inl (cB, 70, .inl (va_cpy f (fun _ => 0) 0 0 34)))] := hD
  refine lv_iload_n hx hb d_AB_append_39 rfl (lv_at hl 1 rfl) ?_
  refine lv_i2b hx hb d_AB_append_40 rfl ?_
  refine va_bast hx hb hK hP hD hS 1 0 rfl rfl (vp_in_iff.mpr (by decide)) d_AB_append_41 (fun H locs hP hD hS => ?_)
  rw [(by rw [pk_vb]; rfl : upd (va_cpy f (fun _ => 0) 0 0 34) (nI 34).toNatClampNeg (vp_nar .byte ((nI ch).toInt8.toInt32)) = upd (va_cpy f (fun _ => 0) 0 0 34) 34 (sb_b ch))] at hP hD
  have hP : va_P (dC, dI) vwCl [(x, .inr (13, [.ref x5, .int 0, .int ml, .int 35])), (x5, .inl (cB, 70, .inl (upd (va_cpy f (fun _ => 0) 0 0 34) 34 (sb_b ch))))] H := hP
  have hD : va_D A [(x, .inr (13, [.ref x5, .int 0, .int ml, .int 35])), (x5, .inl (cB, 70, .inl (upd (va_cpy f (fun _ => 0) 0 0 34) 34 (sb_b ch))))] := hD
  refine lv_goto (tgt := 75) hx hb d_AB_append_42 rfl ?_
  refine lv_aload_n hx hb d_AB_append_75 rfl (lv_at hl 0 rfl) ?_
  have hP9 := hP.sub (ws' := [(x, .inr (13, [.ref x5, .int 0, .int ml, .int 35])), (x5, .inl (cB, 70, .inl (upd (va_cpy f (fun _ => 0) 0 0 34) 34 (sb_b ch))))]) [0, 1] rfl
  have hD9 := hD.sub (ws' := [(x, .inr (13, [.ref x5, .int 0, .int ml, .int 35])), (x5, .inl (cB, 70, .inl (upd (va_cpy f (fun _ => 0) 0 0 34) 34 (sb_b ch))))]) [0, 1] (by decide) rfl
  have hK9 := hK.sub (tys' := [(cB, .byte)]) [0] rfl
  refine W.widen (k := 1) (n := 70) (Nat.le_of_ble_eq_true rfl) (Nat.le_of_ble_eq_true rfl) ?_
  exact W.aret (v := .ref x) hx hb hr (Or.inl ⟨_, rfl⟩) (Or.inr ⟨_, rfl⟩) (fun t ht hW => ⟨⟨(), x, rfl, trivial, ⟨x5, by rw [ht]; exact hP9, va_K.moved hW.alike hK9, hD9⟩⟩, hS.F ht⟩) hS.2.2 d_AB_append_76
set_option maxHeartbeats 1000000 in
set_option maxRecDepth 100000 in
/-- append(c) behind 70 letters: the table grows -/
theorem k_AB_append_grow_70 (l : Launch) (dC : Nat → ClassId) (dI : Nat → Nat → Nat) (sz : Nat) (x : Nat) (bv : Nat) (ml : Int32) (cB : ClassId) (f : Nat → Int32) (ch : Nat) (em : Nat) (aK : Nat → Nat) (aV : Nat → Nat) (hf : sb_Fit f) (hch : ch < 128) : Met l y_AB_append ws_AB_append ({ frames := 4, cells := 1, slots := 142, locals := 84 }) (va_Pc [.ref x, .int (nI ch)] (fun U => U.heap.size = sz ∧ va_P (dC, dI) vwCl [(x, .inr (13, [.ref bv, .int 0, .int ml, .int 70])), (bv, .inl (cB, 70, .inl f))] U.heap ∧ va_K (dC, dI) vwCl [(cB, .byte)] U ∧ va_D (fun _ => True) [(x, .inr (13, [.ref bv, .int 0, .int ml, .int 70])), (bv, .inl (cB, 70, .inl f))] ∧ EX em aK aV (va_A [(x, .inr (13, [.ref bv, .int 0, .int ml, .int 70])), (bv, .inl (cB, 70, .inl f))] sz) U U.heap)) (va_Qr (fun (u : Unit) => True) (fun u ra t => ∃ (bw : Nat), va_P (dC, dI) vwCl [(x, .inr (13, [.ref bw, .int 0, .int ml, .int 71])), (bw, .inl (cB, 142, .inl (upd (va_cpy f (fun _ => 0) 0 0 70) 70 (sb_b ch))))] t.heap ∧ va_K (dC, dI) vwCl [(cB, .byte)] t ∧ va_D (va_A [(x, .inr (13, [.ref bv, .int 0, .int ml, .int 70])), (bv, .inl (cB, 70, .inl f))] sz) [(x, .inr (13, [.ref bw, .int 0, .int ml, .int 71])), (bw, .inl (cB, 142, .inl (upd (va_cpy f (fun _ => 0) 0 0 70) 70 (sb_b ch))))]) (va_A [(x, .inr (13, [.ref bv, .int 0, .int ml, .int 70])), (bv, .inl (cB, 70, .inl f))] sz)) 1 142 (va_A [(x, .inr (13, [.ref bv, .int 0, .int ml, .int 70])), (bv, .inl (cB, 70, .inl f))] sz) := by
  refine Met.ofW (cc := c_AB_append) (maxL := 2) (ret := (some (.object "java/lang/AbstractStringBuilder"))) (by decide) rfl ?_
  intro p e s m args below meth c s₁ B hml hv
  obtain ⟨rfl, hsz, hP, hK, hD0, hE⟩ := hv
  have hx := B.exec
  have hb := B.bytes
  have hr := B.returns
  have hts := atoms_spec (ws := ws_AB_append) B.pre
  have htb := fun w (h : w ∈ TBL) => hts w (List.mem_cons_of_mem _ h)
  have hown : s.vm.findClass R_AB = some m.cls := findClass_of_methodNamed B.named
  have hlocks := B.notSynchronized
  subst hsz
  have hD := hD0.self (sz := s.heap.size)
  generalize hAe : va_A [(x, .inr (13, [.ref bv, .int 0, .int ml, .int 70])), (bv, .inl (cB, 70, .inl f))] s.heap.size = A at hD hE ⊢
  have hA : ∀ q : Nat, s.heap.size ≤ q → A q := fun q h => by rw [← hAe]; exact Or.inr h
  have hS : va_S A s.heap s.heap [] := va_S.rf
  have hP : va_P (dC, dI) vwCl [(x, .inr (13, [.ref bv, .int 0, .int ml, .int 70])), (bv, .inl (cB, 70, .inl f))] s.heap := hP
  have hl := lv_entry ([.ref x, .int (nI ch)]) (n := 2) (Nat.le_of_ble_eq_true rfl)
  rw [lg_entry_eq]
  generalize (lg_sl ([.ref x, .int (nI ch)]) ++ List.replicate (2 - (lg_sl ([.ref x, .int (nI ch)])).length) Slot.unset).toArray = ls at hl ⊢
  have hl : lv_has ls 2 [(0, .ref x), (1, .int (nI ch))] := hl
  refine lv_aload_n hx hb d_AB_append_0 rfl (lv_at hl 0 rfl) ?_
  refine lv_aload_n hx hb d_AB_append_1 rfl (lv_at hl 0 rfl) ?_
  refine va_get (D := (dC, dI)) (ci := 13) (v := .int 70) (C := R_SB) (T := T_SB) (N := 4) hx hb htb in_SB hown hK hP 0 rfl rfl 3 (by decide) (htb _ m_59) (fun _ h9 => h9) rfl d_AB_append_2 ?_
  refine lv_iconst (v := 1) hx hb d_AB_append_5 (by decide) ?_
  refine lv_iadd hx hb d_AB_append_6 ?_
  refine W.eq (congrArg (fun z => F0 m 7 ls (.int z :: [.ref x])) (by decide : ((70 : Int32) + 1) = 71)) ?_
  have hPc := hP.sub (ws' := [(x, .inr (13, [.ref bv, .int 0, .int ml, .int (nI 70)])), (bv, .inl (cB, 70, .inl f))]) [0, 1] rfl
  have hDc := hD.sub (ws' := [(x, .inr (13, [.ref bv, .int 0, .int ml, .int (nI 70)])), (bv, .inl (cB, 70, .inl f))]) [0, 1] (by decide) rfl
  have hFc := va_free (wc := [(x, .inr (13, [.ref bv, .int 0, .int ml, .int (nI 70)])), (bv, .inl (cB, 70, .inl f))]) hD hS hA [0, 1] rfl
  have hKc := hK.sub (tys' := [(cB, .byte)]) [0] rfl
  refine va_callv (va_runU (As := [.int 71]) (rest := []) ⟨hx, hb, hml, hown, htb⟩ (k_AB_grow_70 l dC dI _ x bv ml 70 cB f hf) (va_cwU 1 htb (g_U (fun _ h => h) m_203 m_200 m_1600 m_1713 m_202 m_2) rfl rfl rfl rfl (by decide +kernel) ⟨Nat.le_of_ble_eq_true rfl, Nat.le_of_ble_eq_true rfl⟩) ⟨fun a U g mk q => by obtain ⟨q0, q1, qP, qK, qD⟩ := q; exact ⟨q0, q1, qP, va_K.moved (u := U) (U := U.calling g mk a) (Vm.Alike.refl U.vm) qK, qD⟩, va_recv hK hP (ci := 13) rfl (q0 := 0) rfl, fun U hU hW => ⟨rfl, by rw [hU], by rw [hU]; exact hPc, va_K.moved hW.alike hKc, hDc.weaken (fun _ _ _ _ => trivial)⟩⟩ rfl rfl hl.1 rfl (lv_room (Nat.le_of_ble_eq_true rfl)) d_AB_append_7 ⟨Nat.le_of_ble_eq_true rfl, Nat.le_of_ble_eq_true rfl⟩) hS (fun q _ h => hFc q h) hFc (fun u1 t H1 locs ht hvm hw3 hB hz1 hk1 hS => ?_)
  obtain ⟨x5, hP1, hK1, hD1⟩ := hB
  rw [ht] at hP1
  have hK1 := va_K.moved hvm.symm hK1
  have hw3 : True := hw3
  obtain ⟨hP, hD⟩ := va_join (wr := []) (w1 := [(x, .inr (13, [.ref x5, .int 0, .int ml, .int (nI 70)])), (x5, .inl (cB, 142, .inl (va_cpy f (fun _ => 0) 0 0 70)))]) hP hD [0, 1] [] rfl rfl (by decide) (by decide) hk1 hFc hP1 hD1
  have hK := (hK.sub (tys' := []) [] rfl).app hK1
  generalize H1 = H at hP hS ⊢
  have hP : va_P (dC, dI) vwCl [(x, .inr (13, [.ref x5, .int 0, .int ml, .int (nI 70)])), (x5, .inl (cB, 142, .inl (va_cpy f (fun _ => 0) 0 0 70)))] H := hP
  have hD : va_D A [(x, .inr (13, [.ref x5, .int 0, .int ml, .int (nI 70)])), (x5, .inl (cB, 142, .inl (va_cpy f (fun _ => 0) 0 0 70)))] := hD
  have hK : va_K (dC, dI) vwCl [(cB, .byte)] s := hK
  refine W.widen (k := 1) (n := 142) (Nat.le_of_ble_eq_true rfl) (Nat.le_of_ble_eq_true rfl) ?_
  refine lv_aload_n hx hb d_AB_append_10 rfl (lv_at hl 0 rfl) ?_
  have hPc : va_P (dC, dI) vwCl [(x, .inr (13, [.ref x5, .int 0, .int ml, .int (nI 70)]))] _ := hP.sub (ws' := [(x, .inr (13, [.ref x5, .int 0, .int ml, .int (nI 70)]))]) [0] rfl
  have hKc := hK.sub (tys' := []) [] rfl
  refine vp_callSi (va_Run.run (va_runU (As := []) (rest := []) ⟨hx, hb, hml, hown, htb⟩ (q_AB_isLatin1 l dC dI x x5 ml 70 em aK aV A ) (va_cwU 0 htb (g_U (fun _ h => h) m_239 m_235 m_237 m_238 m_236 m_2) rfl rfl rfl rfl (by decide +kernel) ⟨Nat.le_of_ble_eq_true rfl, Nat.le_of_ble_eq_true rfl⟩) ⟨fun a U g mk q => by obtain ⟨q0, qP, qK, z0⟩ := q; exact ⟨q0, qP, va_K.moved (u := U) (U := U.calling g mk a) (Vm.Alike.refl U.vm) qK, EX.same (U := U) (U' := U.calling g mk a) rfl z0⟩, va_recv hKc hPc (ci := 13) rfl (q0 := 0) rfl, fun U hU hW => ⟨rfl, by rw [hU]; exact hPc, va_K.moved hW.alike hKc, by rw [hU]; exact EX.warm hW (hE.kept (fun a h1 h2 => hS.2.1 a h1 h2))⟩⟩ rfl rfl hl.1 rfl (lv_room (Nat.le_of_ble_eq_true rfl)) d_AB_append_11 ⟨Nat.le_of_ble_eq_true rfl, Nat.le_of_ble_eq_true rfl⟩)) (fun r6 hw7 => ?_)
  have hw7 : r6 = 1 := hw7
  refine lv_if_eq (tgt := 45) hx hb d_AB_append_14 rfl (fun h9 => absurd h9 (by rw [hw7]; decide)) (fun _ => ?_)
  refine lv_iload_n hx hb d_AB_append_17 rfl (lv_at hl 1 rfl) ?_
  have hPc : va_P (dC, dI) vwCl [] _ := hP.sub (ws' := []) [] rfl
  have hKc := hK.sub (tys' := []) [] rfl
  refine vp_callSi (W.runS (As := [.int (nI ch)]) (rest := []) ⟨hx, hb, hml, hown, htb⟩ (q_LT_canEncode l dC dI ch hch) (va_cwS 1 htb (g_S (fun _ h => h) m_343 m_341 m_342 m_16) rfl rfl rfl (by decide +kernel) ⟨Nat.le_of_ble_eq_true rfl, Nat.le_of_ble_eq_true rfl⟩) ⟨fun a U g mk q => by obtain ⟨q0, qP, qK⟩ := q; exact ⟨q0, qP, va_K.moved (u := U) (U := U.calling g mk a) (Vm.Alike.refl U.vm) qK⟩, fun U hU hW => ⟨rfl, by rw [hU]; exact hPc, va_K.moved hW.alike hKc⟩⟩ rfl rfl hl.1 rfl (lv_room (Nat.le_of_ble_eq_true rfl)) d_AB_append_18 ⟨Nat.le_of_ble_eq_true rfl, Nat.le_of_ble_eq_true rfl⟩) (fun r8 hw9 => ?_)
  have hw9 : r8 = 1 := hw9
  refine lv_if_eq (tgt := 45) hx hb d_AB_append_21 rfl (fun h9 => absurd h9 (by rw [hw9]; decide)) (fun _ => ?_)
  refine lv_aload_n hx hb d_AB_append_24 rfl (lv_at hl 0 rfl) ?_
  refine va_get (D := (dC, dI)) (ci := 13) (v := .ref x5) (C := R_SB) (T := T_SB) (N := 4) hx hb htb in_SB hown hK hP 0 rfl rfl 0 (by decide) (htb _ m_55) (fun _ h9 => h9) rfl d_AB_append_25 ?_
  refine lv_aload_n hx hb d_AB_append_28 rfl (lv_at hl 0 rfl) ?_
  refine lv_dup hx hb d_AB_append_29 rfl ?_
  refine va_get (D := (dC, dI)) (ci := 13) (v := .int (nI 70)) (C := R_SB) (T := T_SB) (N := 4) hx hb htb in_SB hown hK hP 0 rfl rfl 3 (by decide) (htb _ m_59) (fun _ h9 => h9) rfl d_AB_append_30 ?_
  refine lv_dup_x1 hx hb d_AB_append_33 rfl rfl ?_
  refine lv_iconst (v := 1) hx hb d_AB_append_34 (by decide) ?_
  refine lv_iadd hx hb d_AB_append_35 ?_
  refine W.eq (congrArg (fun z => F0 m 36 ls (.int z :: [.ref x, .int (nI 70), .ref x5])) (by decide : ((nI 70) + 1) = 71)) ?_
  refine va_put (D := (dC, dI)) (ci := 13) (v := .int 71) (ty := .int) (C := R_SB) (T := T_SB) (N := 4) hx hb htb in_SB ty_SB ty_SB_ok nm_SB hown hK hP hD hS 0 rfl rfl 3 (by decide) (htb _ m_59) (fun _ h9 => h9) rfl (by decide +kernel) rfl rfl (Nat.le_of_ble_eq_true rfl) d_AB_append_36 (fun H locs hP hD hS => ?_)
  have hP : va_P (dC, dI) vwCl [(x, .inr (13, [.ref x5, .int 0, .int ml, .int 71])), (x5, .inl (cB, 142, .inl (va_cpy f (fun _ => 0) 0 0 70)))] H := hP
  have hD : va_D A [(x, .inr (13, [.ref x5, .int 0, .int ml, .int 71])), (x5, .inl (cB, 142, .inl (va_cpy f (fun _ => 0) 0 0 70)))] := hD
  refine lv_iload_n hx hb d_AB_append_39 rfl (lv_at hl 1 rfl) ?_
  refine lv_i2b hx hb d_AB_append_40 rfl ?_
  refine va_bast hx hb hK hP hD hS 1 0 rfl rfl (vp_in_iff.mpr (by decide)) d_AB_append_41 (fun H locs hP hD hS => ?_)
  rw [(by rw [pk_vb]; rfl : upd (va_cpy f (fun _ => 0) 0 0 70) (nI 70).toNatClampNeg (vp_nar .byte ((nI ch).toInt8.toInt32)) = upd (va_cpy f (fun _ => 0) 0 0 70) 70 (sb_b ch))] at hP hD
  have hP : va_P (dC, dI) vwCl [(x, .inr (13, [.ref x5, .int 0, .int ml, .int 71])), (x5, .inl (cB, 142, .inl (upd (va_cpy f (fun _ => 0) 0 0 70) 70 (sb_b ch))))] H := hP
  have hD : va_D A [(x, .inr (13, [.ref x5, .int 0, .int ml, .int 71])), (x5, .inl (cB, 142, .inl (upd (va_cpy f (fun _ => 0) 0 0 70) 70 (sb_b ch))))] := hD
  refine lv_goto (tgt := 75) hx hb d_AB_append_42 rfl ?_
  refine lv_aload_n hx hb d_AB_append_75 rfl (lv_at hl 0 rfl) ?_
  have hP9 := hP.sub (ws' := [(x, .inr (13, [.ref x5, .int 0, .int ml, .int 71])), (x5, .inl (cB, 142, .inl (upd (va_cpy f (fun _ => 0) 0 0 70) 70 (sb_b ch))))]) [0, 1] rfl
  have hD9 := hD.sub (ws' := [(x, .inr (13, [.ref x5, .int 0, .int ml, .int 71])), (x5, .inl (cB, 142, .inl (upd (va_cpy f (fun _ => 0) 0 0 70) 70 (sb_b ch))))]) [0, 1] (by decide) rfl
  have hK9 := hK.sub (tys' := [(cB, .byte)]) [0] rfl
  refine W.widen (k := 1) (n := 142) (Nat.le_of_ble_eq_true rfl) (Nat.le_of_ble_eq_true rfl) ?_
  exact W.aret (v := .ref x) hx hb hr (Or.inl ⟨_, rfl⟩) (Or.inr ⟨_, rfl⟩) (fun t ht hW => ⟨⟨(), x, rfl, trivial, ⟨x5, by rw [ht]; exact hP9, va_K.moved hW.alike hK9, hD9⟩⟩, hS.F ht⟩) hS.2.2 d_AB_append_76
set_option maxHeartbeats 1000000 in
set_option maxRecDepth 100000 in
/-- append(c) behind 142 letters: the table grows -/
theorem k_AB_append_grow_142 (l : Launch) (dC : Nat → ClassId) (dI : Nat → Nat → Nat) (sz : Nat) (x : Nat) (bv : Nat) (ml : Int32) (cB : ClassId) (f : Nat → Int32) (ch : Nat) (em : Nat) (aK : Nat → Nat) (aV : Nat → Nat) (hf : sb_Fit f) (hch : ch < 128) : Met l y_AB_append ws_AB_append ({ frames := 4, cells := 1, slots := 286, locals := 84 }) (va_Pc [.ref x, .int (nI ch)] (fun U => U.heap.size = sz ∧ va_P (dC, dI) vwCl [(x, .inr (13, [.ref bv, .int 0, .int ml, .int 142])), (bv, .inl (cB, 142, .inl f))] U.heap ∧ va_K (dC, dI) vwCl [(cB, .byte)] U ∧ va_D (fun _ => True) [(x, .inr (13, [.ref bv, .int 0, .int ml, .int 142])), (bv, .inl (cB, 142, .inl f))] ∧ EX em aK aV (va_A [(x, .inr (13, [.ref bv, .int 0, .int ml, .int 142])), (bv, .inl (cB, 142, .inl f))] sz) U U.heap)) (va_Qr (fun (u : Unit) => True) (fun u ra t => ∃ (bw : Nat), va_P (dC, dI) vwCl [(x, .inr (13, [.ref bw, .int 0, .int ml, .int 143])), (bw, .inl (cB, 286, .inl (upd (va_cpy f (fun _ => 0) 0 0 142) 142 (sb_b ch))))] t.heap ∧ va_K (dC, dI) vwCl [(cB, .byte)] t ∧ va_D (va_A [(x, .inr (13, [.ref bv, .int 0, .int ml, .int 142])), (bv, .inl (cB, 142, .inl f))] sz) [(x, .inr (13, [.ref bw, .int 0, .int ml, .int 143])), (bw, .inl (cB, 286, .inl (upd (va_cpy f (fun _ => 0) 0 0 142) 142 (sb_b ch))))]) (va_A [(x, .inr (13, [.ref bv, .int 0, .int ml, .int 142])), (bv, .inl (cB, 142, .inl f))] sz)) 1 286 (va_A [(x, .inr (13, [.ref bv, .int 0, .int ml, .int 142])), (bv, .inl (cB, 142, .inl f))] sz) := by
  refine Met.ofW (cc := c_AB_append) (maxL := 2) (ret := (some (.object "java/lang/AbstractStringBuilder"))) (by decide) rfl ?_
  intro p e s m args below meth c s₁ B hml hv
  obtain ⟨rfl, hsz, hP, hK, hD0, hE⟩ := hv
  have hx := B.exec
  have hb := B.bytes
  have hr := B.returns
  have hts := atoms_spec (ws := ws_AB_append) B.pre
  have htb := fun w (h : w ∈ TBL) => hts w (List.mem_cons_of_mem _ h)
  have hown : s.vm.findClass R_AB = some m.cls := findClass_of_methodNamed B.named
  have hlocks := B.notSynchronized
  subst hsz
  have hD := hD0.self (sz := s.heap.size)
  generalize hAe : va_A [(x, .inr (13, [.ref bv, .int 0, .int ml, .int 142])), (bv, .inl (cB, 142, .inl f))] s.heap.size = A at hD hE ⊢
  have hA : ∀ q : Nat, s.heap.size ≤ q → A q := fun q h => by rw [← hAe]; exact Or.inr h
  have hS : va_S A s.heap s.heap [] := va_S.rf
  have hP : va_P (dC, dI) vwCl [(x, .inr (13, [.ref bv, .int 0, .int ml, .int 142])), (bv, .inl (cB, 142, .inl f))] s.heap := hP
  have hl := lv_entry ([.ref x, .int (nI ch)]) (n := 2) (Nat.le_of_ble_eq_true rfl)
  rw [lg_entry_eq]
  generalize (lg_sl ([.ref x, .int (nI ch)]) ++ List.replicate (2 - (lg_sl ([.ref x, .int (nI ch)])).length) Slot.unset).toArray = ls at hl ⊢
  have hl : lv_has ls 2 [(0, .ref x), (1, .int (nI ch))] := hl
  refine lv_aload_n hx hb d_AB_append_0 rfl (lv_at hl 0 rfl) ?_
  refine lv_aload_n hx hb d_AB_append_1 rfl (lv_at hl 0 rfl) ?_
  refine va_get (D := (dC, dI)) (ci := 13) (v := .int 142) (C := R_SB) (T := T_SB) (N := 4) hx hb htb in_SB hown hK hP 0 rfl rfl 3 (by decide) (htb _ m_59) (fun _ h9 => h9) rfl d_AB_append_2 ?_
  refine lv_iconst (v := 1) hx hb d_AB_append_5 (by decide) ?_
  refine lv_iadd hx hb d_AB_append_6 ?_
  refine W.eq (congrArg (fun z => F0 m 7 ls (.int z :: [.ref x])) (by decide : ((142 : Int32) + 1) = 143)) ?_
  have hPc := hP.sub (ws' := [(x, .inr (13, [.ref bv, .int 0, .int ml, .int (nI 142)])), (bv, .inl (cB, 142, .inl f))]) [0, 1] rfl
  have hDc := hD.sub (ws' := [(x, .inr (13, [.ref bv, .int 0, .int ml, .int (nI 142)])), (bv, .inl (cB, 142, .inl f))]) [0, 1] (by decide) rfl
  have hFc := va_free (wc := [(x, .inr (13, [.ref bv, .int 0, .int ml, .int (nI 142)])), (bv, .inl (cB, 142, .inl f))]) hD hS hA [0, 1] rfl
  have hKc := hK.sub (tys' := [(cB, .byte)]) [0] rfl
  refine va_callv (va_runU (As := [.int 143]) (rest := []) ⟨hx, hb, hml, hown, htb⟩ (k_AB_grow_142 l dC dI _ x bv ml 142 cB f hf) (va_cwU 1 htb (g_U (fun _ h => h) m_203 m_200 m_1600 m_1713 m_202 m_2) rfl rfl rfl rfl (by decide +kernel) ⟨Nat.le_of_ble_eq_true rfl, Nat.le_of_ble_eq_true rfl⟩) ⟨fun a U g mk q => by obtain ⟨q0, q1, qP, qK, qD⟩ := q; exact ⟨q0, q1, qP, va_K.moved (u := U) (U := U.calling g mk a) (Vm.Alike.refl U.vm) qK, qD⟩, va_recv hK hP (ci := 13) rfl (q0 := 0) rfl, fun U hU hW => ⟨rfl, by rw [hU], by rw [hU]; exact hPc, va_K.moved hW.alike hKc, hDc.weaken (fun _ _ _ _ => trivial)⟩⟩ rfl rfl hl.1 rfl (lv_room (Nat.le_of_ble_eq_true rfl)) d_AB_append_7 ⟨Nat.le_of_ble_eq_true rfl, Nat.le_of_ble_eq_true rfl⟩) hS (fun q _ h => hFc q h) hFc (fun u1 t H1 locs ht hvm hw3 hB hz1 hk1 hS => ?_)
  obtain ⟨x5, hP1, hK1, hD1⟩ := hB
  rw [ht] at hP1
  have hK1 := va_K.moved hvm.symm hK1
  have hw3 : True := hw3
  obtain ⟨hP, hD⟩ := va_join (wr := []) (w1 := [(x, .inr (13, [.ref x5, .int 0, .int ml, .int (nI 142)])), (x5, .inl (cB, 286, .inl (va_cpy f (fun _ => 0) 0 0 142)))]) hP hD [0, 1] [] rfl rfl (by decide) (by decide) hk1 hFc hP1 hD1
  have hK := (hK.sub (tys' := []) [] rfl).app hK1
  generalize H1 = H at hP hS ⊢
  have hP : va_P (dC, dI) vwCl [(x, .inr (13, [.ref x5, .int 0, .int ml, .int (nI 142)])), (x5, .inl (cB, 286, .inl (va_cpy f (fun _ => 0) 0 0 142)))] H := hP
  have hD : va_D A [(x, .inr (13, [.ref x5, .int 0, .int ml, .int (nI 142)])), (x5, .inl (cB, 286, .inl (va_cpy f (fun _ => 0) 0 0 142)))] := hD
  have hK : va_K (dC, dI) vwCl [(cB, .byte)] s := hK
  refine W.widen (k := 1) (n := 286) (Nat.le_of_ble_eq_true rfl) (Nat.le_of_ble_eq_true rfl) ?_
  refine lv_aload_n hx hb d_AB_append_10 rfl (lv_at hl 0 rfl) ?_
  have hPc : va_P (dC, dI) vwCl [(x, .inr (13, [.ref x5, .int 0, .int ml, .int (nI 142)]))] _ := hP.sub (ws' := [(x, .inr (13, [.ref x5, .int 0, .int ml, .int (nI 142)]))]) [0] rfl
  have hKc := hK.sub (tys' := []) [] rfl
  refine vp_callSi (va_Run.run (va_runU (As := []) (rest := []) ⟨hx, hb, hml, hown, htb⟩ (q_AB_isLatin1 l dC dI x x5 ml 142 em aK aV A ) (va_cwU 0 htb (g_U (fun _ h => h) m_239 m_235 m_237 m_238 m_236 m_2) rfl rfl rfl rfl (by decide +kernel) ⟨Nat.le_of_ble_eq_true rfl, Nat.le_of_ble_eq_true rfl⟩) ⟨fun a U g mk q => by obtain ⟨q0, qP, qK, z0⟩ := q; exact ⟨q0, qP, va_K.moved (u := U) (U := U.calling g mk a) (Vm.Alike.refl U.vm) qK, EX.same (U := U) (U' := U.calling g mk a) rfl z0⟩, va_recv hKc hPc (ci := 13) rfl (q0 := 0) rfl, fun U hU hW => ⟨rfl, by rw [hU]; exact hPc, va_K.moved hW.alike hKc, by rw [hU]; exact EX.warm hW (hE.kept (fun a h1 h2 => hS.2.1 a h1 h2))⟩⟩ rfl rfl hl.1 rfl (lv_room (Nat.le_of_ble_eq_true rfl)) d_AB_append_11 ⟨Nat.le_of_ble_eq_true rfl, Nat.le_of_ble_eq_true rfl⟩)) (fun r6 hw7 => ?_)
  have hw7 : r6 = 1 := hw7
  refine lv_if_eq (tgt := 45) hx hb d_AB_append_14 rfl (fun h9 => absurd h9 (by rw [hw7]; decide)) (fun _ => ?_)
  refine lv_iload_n hx hb d_AB_append_17 rfl (lv_at hl 1 rfl) ?_
  have hPc : va_P (dC, dI) vwCl [] _ := hP.sub (ws' := []) [] rfl
  have hKc := hK.sub (tys' := []) [] rfl
  refine vp_callSi (W.runS (As := [.int (nI ch)]) (rest := []) ⟨hx, hb, hml, hown, htb⟩ (q_LT_canEncode l dC dI ch hch) (va_cwS 1 htb (g_S (fun _ h => h) m_343 m_341 m_342 m_16) rfl rfl rfl (by decide +kernel) ⟨Nat.le_of_ble_eq_true rfl, Nat.le_of_ble_eq_true rfl⟩) ⟨fun a U g mk q => by obtain ⟨q0, qP, qK⟩ := q; exact ⟨q0, qP, va_K.moved (u := U) (U := U.calling g mk a) (Vm.Alike.refl U.vm) qK⟩, fun U hU hW => ⟨rfl, by rw [hU]; exact hPc, va_K.moved hW.alike hKc⟩⟩ rfl rfl hl.1 rfl (lv_room (Nat.le_of_ble_eq_true rfl)) d_AB_append_18 ⟨Nat.le_of_ble_eq_true rfl, Nat.le_of_ble_eq_true rfl⟩) (fun r8 hw9 => ?_)
  have hw9 : r8 = 1 := hw9
  refine lv_if_eq (tgt := 45) hx hb d_AB_append_21 rfl (fun h9 => absurd h9 (by rw [hw9]; decide)) (fun _ => ?_)
  refine lv_aload_n hx hb d_AB_append_24 rfl (lv_at hl 0 rfl) ?_
  refine va_get (D := (dC, dI)) (ci := 13) (v := .ref x5) (C := R_SB) (T := T_SB) (N := 4) hx hb htb in_SB hown hK hP 0 rfl rfl 0 (by decide) (htb _ m_55) (fun _ h9 => h9) rfl d_AB_append_25 ?_
  refine lv_aload_n hx hb d_AB_append_28 rfl (lv_at hl 0 rfl) ?_
  refine lv_dup hx hb d_AB_append_29 rfl ?_
  refine va_get (D := (dC, dI)) (ci := 13) (v := .int (nI 142)) (C := R_SB) (T := T_SB) (N := 4) hx hb htb in_SB hown hK hP 0 rfl rfl 3 (by decide) (htb _ m_59) (fun _ h9 => h9) rfl d_AB_append_30 ?_
  refine lv_dup_x1 hx hb d_AB_append_33 rfl rfl ?_
  refine lv_iconst (v := 1) hx hb d_AB_append_34 (by decide) ?_
  refine lv_iadd hx hb d_AB_append_35 ?_
  refine W.eq (congrArg (fun z => F0 m 36 ls (.int z :: [.ref x, .int (nI 142), .ref x5])) (by decide : ((nI 142) + 1) = 143)) ?_
  refine va_put (D := (dC, dI)) (ci := 13) (v := .int 143) (ty := .int) (C := R_SB) (T := T_SB) (N := 4) hx hb htb in_SB ty_SB ty_SB_ok nm_SB hown hK hP hD hS 0 rfl rfl 3 (by decide) (htb _ m_59) (fun _ h9 => h9) rfl (by decide +kernel) rfl rfl (Nat.le_of_ble_eq_true rfl) d_AB_append_36 (fun H locs hP hD hS => ?_)
  have hP : va_P (dC, dI) vwCl [(x, .inr (13, [.ref x5, .int 0, .int ml, .int 143])), (x5, .inl (cB, 286, .inl (va_cpy f (fun _ => 0) 0 0 142)))] H := hP
  have hD : va_D A [(x, .inr (13, [.ref x5, .int 0, .int ml, .int 143])), (x5, .inl (cB, 286, .inl (va_cpy f (fun _ => 0) 0 0 142)))] := hD
  refine lv_iload_n hx hb d_AB_append_39 rfl (lv_at hl 1 rfl) ?_
  refine lv_i2b hx hb d_AB_append_40 rfl ?_
  refine va_bast hx hb hK hP hD hS 1 0 rfl rfl (vp_in_iff.mpr (by decide)) d_AB_append_41 (fun H locs hP hD hS => ?_)
  rw [(by rw [pk_vb]; rfl : upd (va_cpy f (fun _ => 0) 0 0 142) (nI 142).toNatClampNeg (vp_nar .byte ((nI ch).toInt8.toInt32)) = upd (va_cpy f (fun _ => 0) 0 0 142) 142 (sb_b ch))] at hP hD
  have hP : va_P (dC, dI) vwCl [(x, .inr (13, [.ref x5, .int 0, .int ml, .int 143])), (x5, .inl (cB, 286, .inl (upd (va_cpy f (fun _ => 0) 0 0 142) 142 (sb_b ch))))] H := hP
  have hD : va_D A [(x, .inr (13, [.ref x5, .int 0, .int ml, .int 143])), (x5, .inl (cB, 286, .inl (upd (va_cpy f (fun _ => 0) 0 0 142) 142 (sb_b ch))))] := hD
  refine lv_goto (tgt := 75) hx hb d_AB_append_42 rfl ?_
  refine lv_aload_n hx hb d_AB_append_75 rfl (lv_at hl 0 rfl) ?_
  have hP9 := hP.sub (ws' := [(x, .inr (13, [.ref x5, .int 0, .int ml, .int 143])), (x5, .inl (cB, 286, .inl (upd (va_cpy f (fun _ => 0) 0 0 142) 142 (sb_b ch))))]) [0, 1] rfl
  have hD9 := hD.sub (ws' := [(x, .inr (13, [.ref x5, .int 0, .int ml, .int 143])), (x5, .inl (cB, 286, .inl (upd (va_cpy f (fun _ => 0) 0 0 142) 142 (sb_b ch))))]) [0, 1] (by decide) rfl
  have hK9 := hK.sub (tys' := [(cB, .byte)]) [0] rfl
  refine W.widen (k := 1) (n := 286) (Nat.le_of_ble_eq_true rfl) (Nat.le_of_ble_eq_true rfl) ?_
  exact W.aret (v := .ref x) hx hb hr (Or.inl ⟨_, rfl⟩) (Or.inr ⟨_, rfl⟩) (fun t ht hW => ⟨⟨(), x, rfl, trivial, ⟨x5, by rw [ht]; exact hP9, va_K.moved hW.alike hK9, hD9⟩⟩, hS.F ht⟩) hS.2.2 d_AB_append_76
set_option maxHeartbeats 1000000 in
set_option maxRecDepth 100000 in
/-- StringBuilder.append(c) where there is room -/
theorem k_SB_append_fit (l : Launch) (dC : Nat → ClassId) (dI : Nat → Nat → Nat) (sz : Nat) (x : Nat) (bv : Nat) (ml : Int32) (n : Nat) (cB : ClassId) (f : Nat → Int32) (cap : Nat) (ch : Nat) (em : Nat) (aK : Nat → Nat) (aV : Nat → Nat) (hn : n < cap) (hc : cap ≤ 286) (hch : ch < 128) : Met l y_SB_append ws_SB_append ({ frames := 2, cells := 0, slots := 0, locals := 43 }) (va_Pc [.ref x, .int (nI ch)] (fun U => U.heap.size = sz ∧ va_P (dC, dI) vwCl [(x, .inr (13, [.ref bv, .int 0, .int ml, .int (nI n)])), (bv, .inl (cB, cap, .inl f))] U.heap ∧ va_K (dC, dI) vwCl [(cB, .byte)] U ∧ va_D (fun _ => True) [(x, .inr (13, [.ref bv, .int 0, .int ml, .int (nI n)])), (bv, .inl (cB, cap, .inl f))] ∧ EX em aK aV (va_A [(x, .inr (13, [.ref bv, .int 0, .int ml, .int (nI n)])), (bv, .inl (cB, cap, .inl f))] sz) U U.heap)) (va_Qr (fun (u : Unit) => True) (fun u ra t => va_P (dC, dI) vwCl [(x, .inr (13, [.ref bv, .int 0, .int ml, .int (nI (n + 1))])), (bv, .inl (cB, cap, .inl (upd f n (sb_b ch))))] t.heap ∧ va_K (dC, dI) vwCl [(cB, .byte)] t ∧ va_D (va_A [(x, .inr (13, [.ref bv, .int 0, .int ml, .int (nI n)])), (bv, .inl (cB, cap, .inl f))] sz) [(x, .inr (13, [.ref bv, .int 0, .int ml, .int (nI (n + 1))])), (bv, .inl (cB, cap, .inl (upd f n (sb_b ch))))]) (va_A [(x, .inr (13, [.ref bv, .int 0, .int ml, .int (nI n)])), (bv, .inl (cB, cap, .inl f))] sz)) 0 0 (va_A [(x, .inr (13, [.ref bv, .int 0, .int ml, .int (nI n)])), (bv, .inl (cB, cap, .inl f))] sz) := by
  refine Met.ofW (cc := c_SB_append) (maxL := 2) (ret := (some (.object "java/lang/StringBuilder"))) (by decide) rfl ?_
  intro p e s m args below meth c s₁ B hml hv
  obtain ⟨rfl, hsz, hP, hK, hD0, hE⟩ := hv
  have hx := B.exec
  have hb := B.bytes
  have hr := B.returns
  have hts := atoms_spec (ws := ws_SB_append) B.pre
  have htb := fun w (h : w ∈ TBL) => hts w (List.mem_cons_of_mem _ h)
  have hown : s.vm.findClass R_SB = some m.cls := findClass_of_methodNamed B.named
  have hlocks := B.notSynchronized
  subst hsz
  have hD := hD0.self (sz := s.heap.size)
  generalize hAe : va_A [(x, .inr (13, [.ref bv, .int 0, .int ml, .int (nI n)])), (bv, .inl (cB, cap, .inl f))] s.heap.size = A at hD hE ⊢
  have hA : ∀ q : Nat, s.heap.size ≤ q → A q := fun q h => by rw [← hAe]; exact Or.inr h
  have hS : va_S A s.heap s.heap [] := va_S.rf
  have hP : va_P (dC, dI) vwCl [(x, .inr (13, [.ref bv, .int 0, .int ml, .int (nI n)])), (bv, .inl (cB, cap, .inl f))] s.heap := hP
  have hl := lv_entry ([.ref x, .int (nI ch)]) (n := 2) (Nat.le_of_ble_eq_true rfl)
  rw [lg_entry_eq]
  generalize (lg_sl ([.ref x, .int (nI ch)]) ++ List.replicate (2 - (lg_sl ([.ref x, .int (nI ch)])).length) Slot.unset).toArray = ls at hl ⊢
  have hl : lv_has ls 2 [(0, .ref x), (1, .int (nI ch))] := hl
  refine lv_aload_n hx hb d_SB_append_0 rfl (lv_at hl 0 rfl) ?_
  refine lv_iload_n hx hb d_SB_append_1 rfl (lv_at hl 1 rfl) ?_
  have hPc := hP.sub (ws' := [(x, .inr (13, [.ref bv, .int 0, .int ml, .int (nI n)])), (bv, .inl (cB, cap, .inl f))]) [0, 1] rfl
  have hDc := hD.sub (ws' := [(x, .inr (13, [.ref bv, .int 0, .int ml, .int (nI n)])), (bv, .inl (cB, cap, .inl f))]) [0, 1] (by decide) rfl
  have hFc := va_free (wc := [(x, .inr (13, [.ref bv, .int 0, .int ml, .int (nI n)])), (bv, .inl (cB, cap, .inl f))]) hD hS hA [0, 1] rfl
  have hKc := hK.sub (tys' := [(cB, .byte)]) [0] rfl
  refine va_callr (va_runSU (As := [.int (nI ch)]) (rest := []) (hK.1 13 _ rfl).2 ⟨hx, hb, hml, hown, htb⟩ (k_AB_append_fit l dC dI _ x bv ml n cB f cap ch em aK aV hn hc hch) (va_cwSU 1 htb (g_SU (fun _ h => h) m_340 m_338 m_1602 m_68 m_339 m_2) rfl rfl rfl (by decide +kernel) ⟨Nat.le_of_ble_eq_true rfl, Nat.le_of_ble_eq_true rfl⟩) ⟨fun a U g mk q => by obtain ⟨q0, q1, qP, qK, qD, z0⟩ := q; exact ⟨q0, q1, qP, va_K.moved (u := U) (U := U.calling g mk a) (Vm.Alike.refl U.vm) qK, qD, EX.same (U := U) (U' := U.calling g mk a) rfl z0⟩, va_recv hK hP (ci := 13) rfl (q0 := 0) rfl, fun U hU hW => ⟨rfl, by rw [hU], by rw [hU]; exact hPc, va_K.moved hW.alike hKc, hDc.weaken (fun _ _ _ _ => trivial), by rw [hU]; exact EX.warm hW ((hE.kept (fun a h1 h2 => hS.2.1 a h1 h2)).narrow hFc)⟩⟩ rfl rfl hl.1 rfl (lv_room (Nat.le_of_ble_eq_true rfl)) d_SB_append_2 ⟨Nat.le_of_ble_eq_true rfl, Nat.le_of_ble_eq_true rfl⟩) hS (fun q _ h => hFc q h) hFc (fun u1 ra4 t H1 locs ht hvm hw3 hB hz1 hk1 hS => ?_)
  obtain ⟨hP1, hK1, hD1⟩ := hB
  rw [ht] at hP1
  have hK1 := va_K.moved hvm.symm hK1
  have hw3 : True := hw3
  obtain ⟨hP, hD⟩ := va_join (wr := []) (w1 := [(x, .inr (13, [.ref bv, .int 0, .int ml, .int (nI (n + 1))])), (bv, .inl (cB, cap, .inl (upd f n (sb_b ch))))]) hP hD [0, 1] [] rfl rfl (by decide) (by decide) hk1 hFc hP1 hD1
  have hK := (hK.sub (tys' := []) [] rfl).app hK1
  generalize H1 = H at hP hS ⊢
  have hP : va_P (dC, dI) vwCl [(x, .inr (13, [.ref bv, .int 0, .int ml, .int (nI (n + 1))])), (bv, .inl (cB, cap, .inl (upd f n (sb_b ch))))] H := hP
  have hD : va_D A [(x, .inr (13, [.ref bv, .int 0, .int ml, .int (nI (n + 1))])), (bv, .inl (cB, cap, .inl (upd f n (sb_b ch))))] := hD
  have hK : va_K (dC, dI) vwCl [(cB, .byte)] s := hK
  refine lv_pop hx hb d_SB_append_5 rfl ?_
  refine lv_aload_n hx hb d_SB_append_6 rfl (lv_at hl 0 rfl) ?_
  have hP9 := hP.sub (ws' := [(x, .inr (13, [.ref bv, .int 0, .int ml, .int (nI (n + 1))])), (bv, .inl (cB, cap, .inl (upd f n (sb_b ch))))]) [0, 1] rfl
  have hD9 := hD.sub (ws' := [(x, .inr (13, [.ref bv, .int 0, .int ml, .int (nI (n + 1))])), (bv, .inl (cB, cap, .inl (upd f n (sb_b ch))))]) [0, 1] (by decide) rfl
  have hK9 := hK.sub (tys' := [(cB, .byte)]) [0] rfl
  refine W.widen (k := 0) (n := 0) (Nat.le_of_ble_eq_true rfl) (Nat.le_of_ble_eq_true rfl) ?_
  exact W.aret (v := .ref x) hx hb hr (Or.inl ⟨_, rfl⟩) (Or.inr ⟨_, rfl⟩) (fun t ht hW => ⟨⟨(), x, rfl, trivial, ⟨by rw [ht]; exact hP9, va_K.moved hW.alike hK9, hD9⟩⟩, hS.F ht⟩) hS.2.2 d_SB_append_7
set_option maxHeartbeats 1000000 in
set_option maxRecDepth 100000 in
/-- StringBuilder.append(c) behind 16 letters -/
theorem k_SB_append_grow_16 (l : Launch) (dC : Nat → ClassId) (dI : Nat → Nat → Nat) (sz : Nat) (x : Nat) (bv : Nat) (ml : Int32) (cB : ClassId) (f : Nat → Int32) (ch : Nat) (em : Nat) (aK : Nat → Nat) (aV : Nat → Nat) (hf : sb_Fit f) (hch : ch < 128) : Met l y_SB_append ws_SB_append ({ frames := 5, cells := 1, slots := 34, locals := 105 }) (va_Pc [.ref x, .int (nI ch)] (fun U => U.heap.size = sz ∧ va_P (dC, dI) vwCl [(x, .inr (13, [.ref bv, .int 0, .int ml, .int 16])), (bv, .inl (cB, 16, .inl f))] U.heap ∧ va_K (dC, dI) vwCl [(cB, .byte)] U ∧ va_D (fun _ => True) [(x, .inr (13, [.ref bv, .int 0, .int ml, .int 16])), (bv, .inl (cB, 16, .inl f))] ∧ EX em aK aV (va_A [(x, .inr (13, [.ref bv, .int 0, .int ml, .int 16])), (bv, .inl (cB, 16, .inl f))] sz) U U.heap)) (va_Qr (fun (u : Unit) => True) (fun u ra t => ∃ (bw : Nat), va_P (dC, dI) vwCl [(x, .inr (13, [.ref bw, .int 0, .int ml, .int 17])), (bw, .inl (cB, 34, .inl (upd (va_cpy f (fun _ => 0) 0 0 16) 16 (sb_b ch))))] t.heap ∧ va_K (dC, dI) vwCl [(cB, .byte)] t ∧ va_D (va_A [(x, .inr (13, [.ref bv, .int 0, .int ml, .int 16])), (bv, .inl (cB, 16, .inl f))] sz) [(x, .inr (13, [.ref bw, .int 0, .int ml, .int 17])), (bw, .inl (cB, 34, .inl (upd (va_cpy f (fun _ => 0) 0 0 16) 16 (sb_b ch))))]) (va_A [(x, .inr (13, [.ref bv, .int 0, .int ml, .int 16])), (bv, .inl (cB, 16, .inl f))] sz)) 1 34 (va_A [(x, .inr (13, [.ref bv, .int 0, .int ml, .int 16])), (bv, .inl (cB, 16, .inl f))] sz) := by
  refine Met.ofW (cc := c_SB_append) (maxL := 2) (ret := (some (.object "java/lang/StringBuilder"))) (by decide) rfl ?_
  intro p e s m args below meth c s₁ B hml hv
  obtain ⟨rfl, hsz, hP, hK, hD0, hE⟩ := hv
  have hx := B.exec
  have hb := B.bytes
  have hr := B.returns
  have hts := atoms_spec (ws := ws_SB_append) B.pre
  have htb := fun w (h : w ∈ TBL) => hts w (List.mem_cons_of_mem _ h)
  have hown : s.vm.findClass R_SB = some m.cls := findClass_of_methodNamed B.named
  have hlocks := B.notSynchronized
  subst hsz
  have hD := hD0.self (sz := s.heap.size)
  generalize hAe : va_A [(x, .inr (13, [.ref bv, .int 0, .int ml, .int 16])), (bv, .inl (cB, 16, .inl f))] s.heap.size = A at hD hE ⊢
  have hA : ∀ q : Nat, s.heap.size ≤ q → A q := fun q h => by rw [← hAe]; exact Or.inr h
  have hS : va_S A s.heap s.heap [] := va_S.rf
  have hP : va_P (dC, dI) vwCl [(x, .inr (13, [.ref bv, .int 0, .int ml, .int 16])), (bv, .inl (cB, 16, .inl f))] s.heap := hP
  have hl := lv_entry ([.ref x, .int (nI ch)]) (n := 2) (Nat.le_of_ble_eq_true rfl)
  rw [lg_entry_eq]
  generalize (lg_sl ([.ref x, .int (nI ch)]) ++ List.replicate (2 - (lg_sl ([.ref x, .int (nI ch)])).length) Slot.unset).toArray = ls at hl ⊢
  have hl : lv_has ls 2 [(0, .ref x), (1, .int (nI ch))] := hl
  refine lv_aload_n hx hb d_SB_append_0 rfl (lv_at hl 0 rfl) ?_
  refine lv_iload_n hx hb d_SB_append_1 rfl (lv_at hl 1 rfl) ?_
  have hPc := hP.sub (ws' := [(x, .inr (13, [.ref bv, .int 0, .int ml, .int 16])), (bv, .inl (cB, 16, .inl f))]) [0, 1] rfl
  have hDc := hD.sub (ws' := [(x, .inr (13, [.ref bv, .int 0, .int ml, .int 16])), (bv, .inl (cB, 16, .inl f))]) [0, 1] (by decide) rfl
  have hFc := va_free (wc := [(x, .inr (13, [.ref bv, .int 0, .int ml, .int 16])), (bv, .inl (cB, 16, .inl f))]) hD hS hA [0, 1] rfl
  have hKc := hK.sub (tys' := [(cB, .byte)]) [0] rfl
  refine va_callr (va_runSU (As := [.int (nI ch)]) (rest := []) (hK.1 13 _ rfl).2 ⟨hx, hb, hml, hown, htb⟩ (k_AB_append_grow_16 l dC dI _ x bv ml cB f ch em aK aV hf hch) (va_cwSU 1 htb (g_SU (fun _ h => h) m_340 m_338 m_1602 m_68 m_339 m_2) rfl rfl rfl (by decide +kernel) ⟨Nat.le_of_ble_eq_true rfl, Nat.le_of_ble_eq_true rfl⟩) ⟨fun a U g mk q => by obtain ⟨q0, q1, qP, qK, qD, z0⟩ := q; exact ⟨q0, q1, qP, va_K.moved (u := U) (U := U.calling g mk a) (Vm.Alike.refl U.vm) qK, qD, EX.same (U := U) (U' := U.calling g mk a) rfl z0⟩, va_recv hK hP (ci := 13) rfl (q0 := 0) rfl, fun U hU hW => ⟨rfl, by rw [hU], by rw [hU]; exact hPc, va_K.moved hW.alike hKc, hDc.weaken (fun _ _ _ _ => trivial), by rw [hU]; exact EX.warm hW ((hE.kept (fun a h1 h2 => hS.2.1 a h1 h2)).narrow hFc)⟩⟩ rfl rfl hl.1 rfl (lv_room (Nat.le_of_ble_eq_true rfl)) d_SB_append_2 ⟨Nat.le_of_ble_eq_true rfl, Nat.le_of_ble_eq_true rfl⟩) hS (fun q _ h => hFc q h) hFc (fun u1 ra4 t H1 locs ht hvm hw3 hB hz1 hk1 hS => ?_)
  obtain ⟨x5, hP1, hK1, hD1⟩ := hB
  rw [ht] at hP1
  have hK1 := va_K.moved hvm.symm hK1
  have hw3 : True := hw3
  obtain ⟨hP, hD⟩ := va_join (wr := []) (w1 := [(x, .inr (13, [.ref x5, .int 0, .int ml, .int 17])), (x5, .inl (cB, 34, .inl (upd (va_cpy f (fun _ => 0) 0 0 16) 16 (sb_b ch))))]) hP hD [0, 1] [] rfl rfl (by decide) (by decide) hk1 hFc hP1 hD1
  have hK := (hK.sub (tys' := []) [] rfl).app hK1
  generalize H1 = H at hP hS ⊢
  have hP : va_P (dC, dI) vwCl [(x, .inr (13, [.ref x5, .int 0, .int ml, .int 17])), (x5, .inl (cB, 34, .inl (upd (va_cpy f (fun _ => 0) 0 0 16) 16 (sb_b ch))))] H := hP
  have hD : va_D A [(x, .inr (13, [.ref x5, .int 0, .int ml, .int 17])), (x5, .inl (cB, 34, .inl (upd (va_cpy f (fun _ => 0) 0 0 16) 16 (sb_b ch))))] := hD
  have hK : va_K (dC, dI) vwCl [(cB, .byte)] s := hK
  refine W.widen (k := 1) (n := 34) (Nat.le_of_ble_eq_true rfl) (Nat.le_of_ble_eq_true rfl) ?_
  refine lv_pop hx hb d_SB_append_5 rfl ?_
  refine lv_aload_n hx hb d_SB_append_6 rfl (lv_at hl 0 rfl) ?_
  have hP9 := hP.sub (ws' := [(x, .inr (13, [.ref x5, .int 0, .int ml, .int 17])), (x5, .inl (cB, 34, .inl (upd (va_cpy f (fun _ => 0) 0 0 16) 16 (sb_b ch))))]) [0, 1] rfl
  have hD9 := hD.sub (ws' := [(x, .inr (13, [.ref x5, .int 0, .int ml, .int 17])), (x5, .inl (cB, 34, .inl (upd (va_cpy f (fun _ => 0) 0 0 16) 16 (sb_b ch))))]) [0, 1] (by decide) rfl
  have hK9 := hK.sub (tys' := [(cB, .byte)]) [0] rfl
  refine W.widen (k := 1) (n := 34) (Nat.le_of_ble_eq_true rfl) (Nat.le_of_ble_eq_true rfl) ?_
  exact W.aret (v := .ref x) hx hb hr (Or.inl ⟨_, rfl⟩) (Or.inr ⟨_, rfl⟩) (fun t ht hW => ⟨⟨(), x, rfl, trivial, ⟨x5, by rw [ht]; exact hP9, va_K.moved hW.alike hK9, hD9⟩⟩, hS.F ht⟩) hS.2.2 d_SB_append_7
set_option maxHeartbeats 1000000 in
set_option maxRecDepth 100000 in
/-- StringBuilder.append(c) behind 34 letters -/
theorem k_SB_append_grow_34 (l : Launch) (dC : Nat → ClassId) (dI : Nat → Nat → Nat) (sz : Nat) (x : Nat) (bv : Nat) (ml : Int32) (cB : ClassId) (f : Nat → Int32) (ch : Nat) (em : Nat) (aK : Nat → Nat) (aV : Nat → Nat) (hf : sb_Fit f) (hch : ch < 128) : Met l y_SB_append ws_SB_append ({ frames := 5, cells := 1, slots := 70, locals := 105 }) (va_Pc [.ref x, .int (nI ch)] (fun U => U.heap.size = sz ∧ va_P (dC, dI) vwCl [(x, .inr (13, [.ref bv, .int 0, .int ml, .int 34])), (bv, .inl (cB, 34, .inl f))] U.heap ∧ va_K (dC, dI) vwCl [(cB, .byte)] U ∧ va_D (fun _ => True) [(x, .inr (13, [.ref bv, .int 0, .int ml, .int 34])), (bv, .inl (cB, 34, .inl f))] ∧ EX em aK aV (va_A [(x, .inr (13, [.ref bv, .int 0, .int ml, .int 34])), (bv, .inl (cB, 34, .inl f))] sz) U U.heap)) (va_Qr (fun (u : Unit) => True) (fun u ra t => ∃ (bw : Nat), va_P (dC, dI) vwCl [(x, .inr (13, [.ref bw, .int 0, .int ml, .int 35])), (bw, .inl (cB, 70, .inl (upd (va_cpy f (fun _ => 0) 0 0 34) 34 (sb_b ch))))] t.heap ∧ va_K (dC, dI) vwCl [(cB, .byte)] t ∧ va_D (va_A [(x, .inr (13, [.ref bv, .int 0, .int ml, .int 34])), (bv, .inl (cB, 34, .inl f))] sz) [(x, .inr (13, [.ref bw, .int 0, .int ml, .int 35])), (bw, .inl (cB, 70, .inl (upd (va_cpy f (fun _ => 0) 0 0 34) 34 (sb_b ch))))]) (va_A [(x, .inr (13, [.ref bv, .int 0, .int ml, .int 34])), (bv, .inl (cB, 34, .inl f))] sz)) 1 70 (va_A [(x, .inr (13, [.ref bv, .int 0, .int ml, .int 34])), (bv, .inl (cB, 34, .inl f))] sz) := by
  refine Met.ofW (cc := c_SB_append) (maxL := 2) (ret := (some (.object "java/lang/StringBuilder"))) (by decide) rfl ?_
  intro p e s m args below meth c s₁ B hml hv
  obtain ⟨rfl, hsz, hP, hK, hD0, hE⟩ := hv
  have hx := B.exec
  have hb := B.bytes
  have hr := B.returns
  have hts := atoms_spec (ws := ws_SB_append) B.pre
  have htb := fun w (h : w ∈ TBL) => hts w (List.mem_cons_of_mem _ h)
  have hown : s.vm.findClass R_SB = some m.cls := findClass_of_methodNamed B.named
  have hlocks := B.notSynchronized
  subst hsz
  have hD := hD0.self (sz := s.heap.size)
  generalize hAe : va_A [(x, .inr (13, [.ref bv, .int 0, .int ml, .int 34])), (bv, .inl (cB, 34, .inl f))] s.heap.size = A at hD hE ⊢
  have hA : ∀ q : Nat, s.heap.size ≤ q → A q := fun q h => by rw [← hAe]; exact Or.inr h
  have hS : va_S A s.heap s.heap [] := va_S.rf
  have hP : va_P (dC, dI) vwCl [(x, .inr (13, [.ref bv, .int 0, .int ml, .int 34])), (bv, .inl (cB, 34, .inl f))] s.heap := hP
  have hl := lv_entry ([.ref x, .int (nI ch)]) (n := 2) (Nat.le_of_ble_eq_true rfl)
  rw [lg_entry_eq]
  generalize (lg_sl ([.ref x, .int (nI ch)]) ++ List.replicate (2 - (lg_sl ([.ref x, .int (nI ch)])).length) Slot.unset).toArray = ls at hl ⊢
  have hl : lv_has ls 2 [(0, .ref x), (1, .int (nI ch))] := hl
  refine lv_aload_n hx hb d_SB_append_0 rfl (lv_at hl 0 rfl) ?_
  refine lv_iload_n hx hb d_SB_append_1 rfl (lv_at hl 1 rfl) ?_
  have hPc := hP.sub (ws' := [(x, .inr (13, [.ref bv, .int 0, .int ml, .int 34])), (bv, .inl (cB, 34, .inl f))]) [0, 1] rfl
  have hDc := hD.sub (ws' := [(x, .inr (13, [.ref bv, .int 0, .int ml, .int 34])), (bv, .inl (cB, 34, .inl f))]) [0, 1] (by decide) rfl
  have hFc := va_free (wc := [(x, .inr (13, [.ref bv, .int 0, .int ml, .int 34])), (bv, .inl (cB, 34, .inl f))]) hD hS hA [0, 1] rfl
  have hKc := hK.sub (tys' := [(cB, .byte)]) [0] rfl
  refine va_callr (va_runSU (As := [.int (nI ch)]) (rest := []) (hK.1 13 _ rfl).2 ⟨hx, hb, hml, hown, htb⟩ (k_AB_append_grow_34 l dC dI _ x bv ml cB f ch em aK aV hf hch) (va_cwSU 1 htb (g_SU (fun _ h => h) m_340 m_338 m_1602 m_68 m_339 m_2) rfl rfl rfl (by decide +kernel) ⟨Nat.le_of_ble_eq_true rfl, Nat.le_of_ble_eq_true rfl⟩) ⟨fun a U g mk q => by obtain ⟨q0, q1, qP, qK, qD, z0⟩ := q; exact ⟨q0, q1, qP, va_K.moved (u := U) (U := U.calling g mk a) (Vm.Alike.refl U.vm) qK, qD, EX.same (U := U) (U' := U.calling g mk a) rfl z0⟩, va_recv hK hP (ci := 13) rfl (q0 := 0) rfl, fun U hU hW => ⟨rfl, by rw [hU], by rw [hU]; exact hPc, va_K.moved hW.alike hKc, hDc.weaken (fun _ _ _ _ => trivial), by rw [hU]; exact EX.warm hW ((hE.kept (fun a h1 h2 => hS.2.1 a h1 h2)).narrow hFc)⟩⟩ rfl rfl hl.1 rfl (lv_room (Nat.le_of_ble_eq_true rfl)) d_SB_append_2 ⟨Nat.le_of_ble_eq_true rfl, Nat.le_of_ble_eq_true rfl⟩) hS (fun q _ h => hFc q h) hFc (fun u1 ra4 t H1 locs ht hvm hw3 hB hz1 hk1 hS => ?_)
  obtain ⟨x5, hP1, hK1, hD1⟩ := hB
  rw [ht] at hP1
  have hK1 := va_K.moved hvm.symm hK1
  have hw3 : True := hw3
  obtain ⟨hP, hD⟩ := va_join (wr := []) (w1 := [(x, .inr (13, [.ref x5, .int 0, .int ml, .int 35])), (x5, .inl (cB, 70, .inl (upd (va_cpy f (fun _ => 0) 0 0 34) 34 (sb_b ch))))]) hP hD [0, 1] [] rfl rfl (by decide) (by decide) hk1 hFc hP1 hD1
  have hK := (hK.sub (tys' := []) [] rfl).app hK1
  generalize H1 = H at hP hS ⊢
  have hP : va_P (dC, dI) vwCl [(x, .inr (13, [.ref x5, .int 0, .int ml, .int 35])), (x5, .inl (cB, 70, .inl (upd (va_cpy f (fun _ => 0) 0 0 34) 34 (sb_b ch))))] H := hP
  have hD : va_D A [(x, .inr (13, [.ref x5, .int 0, .int ml, .int 35])), (x5, .inl (cB, 70, .inl (upd (va_cpy f (fun _ => 0) 0 0 34) 34 (sb_b ch))))] := hD
  have hK : va_K (dC, dI) vwCl [(cB, .byte)] s := hK
  refine W.widen (k := 1) (n := 70) (Nat.le_of_ble_eq_true rfl) (Nat.le_of_ble_eq_true rfl) ?_
  refine lv_pop hx hb d_SB_append_5 rfl ?_
  refine lv_aload_n hx hb d_SB_append_6 rfl (lv_at hl 0 rfl) ?_
  have hP9 := hP.sub (ws' := [(x, .inr (13, [.ref x5, .int 0, .int ml, .int 35])), (x5, .inl (cB, 70, .inl (upd (va_cpy f (fun _ => 0) 0 0 34) 34 (sb_b ch))))]) [0, 1] rfl
  have hD9 := hD.sub (ws' := [(x, .inr (13, [.ref x5, .int 0, .int ml, .int 35])), (x5, .inl (cB, 70, .inl (upd (va_cpy f (fun _ => 0) 0 0 34) 34 (sb_b ch))))]) [0, 1] (by decide) rfl
  have hK9 := hK.sub (tys' := [(cB, .byte)]) [0] rfl
  refine W.widen (k := 1) (n := 70) (Nat.le_of_ble_eq_true rfl) (Nat.le_of_ble_eq_true rfl) ?_
  exact W.aret (v := .ref x) hx hb hr (Or.inl ⟨_, rfl⟩) (Or.inr ⟨_, rfl⟩) (fun t ht hW => ⟨⟨(), x, rfl, trivial, ⟨x5, by rw [ht]; exact hP9, va_K.moved hW.alike hK9, hD9⟩⟩, hS.F ht⟩) hS.2.2 d_SB_append_7
set_option maxHeartbeats 1000000 in
set_option maxRecDepth 100000 in
/-- StringBuilder.append(c) behind 70 letters -/
theorem k_SB_append_grow_70 (l : Launch) (dC : Nat → ClassId) (dI : Nat → Nat → Nat) (sz : Nat) (x : Nat) (bv : Nat) (ml : Int32) (cB : ClassId) (f : Nat → Int32) (ch : Nat) (em : Nat) (aK : Nat → Nat) (aV : Nat → Nat) (hf : sb_Fit f) (hch : ch < 128) : Met l y_SB_append ws_SB_append ({ frames := 5, cells := 1, slots := 142, locals := 105 }) (va_Pc [.ref x, .int (nI ch)] (fun U => U.heap.size = sz ∧ va_P (dC, dI) vwCl [(x, .inr (13, [.ref bv, .int 0, .int ml, .int 70])), (bv, .inl (cB, 70, .inl f))] U.heap ∧ va_K (dC, dI) vwCl [(cB, .byte)] U ∧ va_D (fun _ => True) [(x, .inr (13, [.ref bv, .int 0, .int ml, .int 70])), (bv, .inl (cB, 70, .inl f))] ∧ EX em aK aV (va_A [(x, .inr (13, [.ref bv, .int 0, .int ml, .int 70])), (bv, .inl (cB, 70, .inl f))] sz) U U.heap)) (va_Qr (fun (u : Unit) => True) (fun u ra t => ∃ (bw : Nat), va_P (dC, dI) vwCl [(x, .inr (13, [.ref bw, .int 0, .int ml, .int 71])), (bw, .inl (cB, 142, .inl (upd (va_cpy f (fun _ => 0) 0 0 70) 70 (sb_b ch))))] t.heap ∧ va_K (dC, dI) vwCl [(cB, .byte)] t ∧ va_D (va_A [(x, .inr (13, [.ref bv, .int 0, .int ml, .int 70])), (bv, .inl (cB, 70, .inl f))] sz) [(x, .inr (13, [.ref bw, .int 0, .int ml, .int 71])), (bw, .inl (cB, 142, .inl (upd (va_cpy f (fun _ => 0) 0 0 70) 70 (sb_b ch))))]) (va_A [(x, .inr (13, [.ref bv, .int 0, .int ml, .int 70])), (bv, .inl (cB, 70, .inl f))] sz)) 1 142 (va_A [(x, .inr (13, [.ref bv, .int 0, .int ml, .int 70])), (bv, .inl (cB, 70, .inl f))] sz) := by
  refine Met.ofW (cc := c_SB_append) (maxL := 2) (ret := (some (.object "java/lang/StringBuilder"))) (by decide) rfl ?_
  intro p e s m args below meth c s₁ B hml hv
  obtain ⟨rfl, hsz, hP, hK, hD0, hE⟩ := hv
  have hx := B.exec
  have hb := B.bytes
  have hr := B.returns
  have hts := atoms_spec (ws := ws_SB_append) B.pre
  have htb := fun w (h : w ∈ TBL) => hts w (List.mem_cons_of_mem _ h)
  have hown : s.vm.findClass R_SB = some m.cls := findClass_of_methodNamed B.named
  have hlocks := B.notSynchronized
  subst hsz
  have hD := hD0.self (sz := s.heap.size)
  generalize hAe : va_A [(x, .inr (13, [.ref bv, .int 0, .int ml, .int 70])), (bv, .inl (cB, 70, .inl f))] s.heap.size = A at hD hE ⊢
  have hA : ∀ q : Nat, s.heap.size ≤ q → A q := fun q h => by rw [← hAe]; exact Or.inr h
  have hS : va_S A s.heap s.heap [] := va_S.rf
  have hP : va_P (dC, dI) vwCl [(x, .inr (13, [.ref bv, .int 0, .int ml, .int 70])), (bv, .inl (cB, 70, .inl f))] s.heap := hP
  have hl := lv_entry ([.ref x, .int (nI ch)]) (n := 2) (Nat.le_of_ble_eq_true rfl)
  rw [lg_entry_eq]
  generalize (lg_sl ([.ref x, .int (nI ch)]) ++ List.replicate (2 - (lg_sl ([.ref x, .int (nI ch)])).length) Slot.unset).toArray = ls at hl ⊢
  have hl : lv_has ls 2 [(0, .ref x), (1, .int (nI ch))] := hl
  refine lv_aload_n hx hb d_SB_append_0 rfl (lv_at hl 0 rfl) ?_
  refine lv_iload_n hx hb d_SB_append_1 rfl (lv_at hl 1 rfl) ?_
  have hPc := hP.sub (ws' := [(x, .inr (13, [.ref bv, .int 0, .int ml, .int 70])), (bv, .inl (cB, 70, .inl f))]) [0, 1] rfl
  have hDc := hD.sub (ws' := [(x, .inr (13, [.ref bv, .int 0, .int ml, .int 70])), (bv, .inl (cB, 70, .inl f))]) [0, 1] (by decide) rfl
  have hFc := va_free (wc := [(x, .inr (13, [.ref bv, .int 0, .int ml, .int 70])), (bv, .inl (cB, 70, .inl f))]) hD hS hA [0, 1] rfl
  have hKc := hK.sub (tys' := [(cB, .byte)]) [0] rfl
  refine va_callr (va_runSU (As := [.int (nI ch)]) (rest := []) (hK.1 13 _ rfl).2 ⟨hx, hb, hml, hown, htb⟩ (k_AB_append_grow_70 l dC dI _ x bv ml cB f ch em aK aV hf hch) (va_cwSU 1 htb (g_SU (fun _ h => h) m_340 m_338 m_1602 m_68 m_339 m_2) rfl rfl rfl (by decide +kernel) ⟨Nat.le_of_ble_eq_true rfl, Nat.le_of_ble_eq_true rfl⟩) ⟨fun a U g mk q => by obtain ⟨q0, q1, qP, qK, qD, z0⟩ := q; exact ⟨q0, q1, qP, va_K.moved (u := U) (U := U.calling g mk a) (Vm.Alike.refl U.vm) qK, qD, EX.same (U := U) (U' := U.calling g mk a) rfl z0⟩, va_recv hK hP (ci := 13) rfl (q0 := 0) rfl, fun U hU hW => ⟨rfl, by rw [hU], by rw [hU]; exact hPc, va_K.moved hW.alike hKc, hDc.weaken (fun _ _ _ _ => trivial), by rw [hU]; exact EX.warm hW ((hE.kept (fun a h1 h2 => hS.2.1 a h1 h2)).narrow hFc)⟩⟩ rfl rfl hl.1 rfl (lv_room (Nat.le_of_ble_eq_true rfl)) d_SB_append_2 ⟨Nat.le_of_ble_eq_true rfl, Nat.le_of_ble_eq_true rfl⟩) hS (fun q _ h => hFc q h) hFc (fun u1 ra4 t H1 locs ht hvm hw3 hB hz1 hk1 hS => ?_)
  obtain ⟨x5, hP1, hK1, hD1⟩ := hB
  rw [ht] at hP1
  have hK1 := va_K.moved hvm.symm hK1
  have hw3 : True := hw3
  obtain ⟨hP, hD⟩ := va_join (wr := []) (w1 := [(x, .inr (13, [.ref x5, .int 0, .int ml, .int 71])), (x5, .inl (cB, 142, .inl (upd (va_cpy f (fun _ => 0) 0 0 70) 70 (sb_b ch))))]) hP hD [0, 1] [] rfl rfl (by decide) (by decide) hk1 hFc hP1 hD1
  have hK := (hK.sub (tys' := []) [] rfl).app hK1
  generalize H1 = H at hP hS ⊢
  have hP : va_P (dC, dI) vwCl [(x, .inr (13, [.ref x5, .int 0, .int ml, .int 71])), (x5, .inl (cB, 142, .inl (upd (va_cpy f (fun _ => 0) 0 0 70) 70 (sb_b ch))))] H := hP
  have hD : va_D A [(x, .inr (13, [.ref x5, .int 0, .int ml, .int 71])), (x5, .inl (cB, 142, .inl (upd (va_cpy f (fun _ => 0) 0 0 70) 70 (sb_b ch))))] := hD
  have hK : va_K (dC, dI) vwCl [(cB, .byte)] s := hK
  refine W.widen (k := 1) (n := 142) (Nat.le_of_ble_eq_true rfl) (Nat.le_of_ble_eq_true rfl) ?_
  refine lv_pop hx hb d_SB_append_5 rfl ?_
  refine lv_aload_n hx hb d_SB_append_6 rfl (lv_at hl 0 rfl) ?_
  have hP9 := hP.sub (ws' := [(x, .inr (13, [.ref x5, .int 0, .int ml, .int 71])), (x5, .inl (cB, 142, .inl (upd (va_cpy f (fun _ => 0) 0 0 70) 70 (sb_b ch))))]) [0, 1] rfl
  have hD9 := hD.sub (ws' := [(x, .inr (13, [.ref x5, .int 0, .int ml, .int 71])), (x5, .inl (cB, 142, .inl (upd (va_cpy f (fun _ => 0) 0 0 70) 70 (sb_b ch))))]) [0, 1] (by decide) rfl
  have hK9 := hK.sub (tys' := [(cB, .byte)]) [0] rfl
  refine W.widen (k := 1) (n := 142) (Nat.le_of_ble_eq_true rfl) (Nat.le_of_ble_eq_true rfl) ?_
  exact W.aret (v := .ref x) hx hb hr (Or.inl ⟨_, rfl⟩) (Or.inr ⟨_, rfl⟩) (fun t ht hW => ⟨⟨(), x, rfl, trivial, ⟨x5, by rw [ht]; exact hP9, va_K.moved hW.alike hK9, hD9⟩⟩, hS.F ht⟩) hS.2.2 d_SB_append_7
set_option maxHeartbeats 1000000 in
set_option maxRecDepth 100000 in
/-- StringBuilder.append(c) behind 142 letters -/
theorem k_SB_append_grow_142 (l : Launch) (dC : Nat → ClassId) (dI : Nat → Nat → Nat) (sz : Nat) (x : Nat) (bv : Nat) (ml : Int32) (cB : ClassId) (f : Nat → Int32) (ch : Nat) (em : Nat) (aK : Nat → Nat) (aV : Nat → Nat) (hf : sb_Fit f) (hch : ch < 128) : Met l y_SB_append ws_SB_append ({ frames := 5, cells := 1, slots := 286, locals := 105 }) (va_Pc [.ref x, .int (nI ch)] (fun U => U.heap.size = sz ∧ va_P (dC, dI) vwCl [(x, .inr (13, [.ref bv, .int 0, .int ml, .int 142])), (bv, .inl (cB, 142, .inl f))] U.heap ∧ va_K (dC, dI) vwCl [(cB, .byte)] U ∧ va_D (fun _ => True) [(x, .inr (13, [.ref bv, .int 0, .int ml, .int 142])), (bv, .inl (cB, 142, .inl f))] ∧ EX em aK aV (va_A [(x, .inr (13, [.ref bv, .int 0, .int ml, .int 142])), (bv, .inl (cB, 142, .inl f))] sz) U U.heap)) (va_Qr (fun (u : Unit) => True) (fun u ra t => ∃ (bw : Nat), va_P (dC, dI) vwCl [(x, .inr (13, [.ref bw, .int 0, .int ml, .int 143])), (bw, .inl (cB, 286, .inl (upd (va_cpy f (fun _ => 0) 0 0 142) 142 (sb_b ch))))] t.heap ∧ va_K (dC, dI) vwCl [(cB, .byte)] t ∧ va_D (va_A [(x, .inr (13, [.ref bv, .int 0, .int ml, .int 142])), (bv, .inl (cB, 142, .inl f))] sz) [(x, .inr (13, [.ref bw, .int 0, .int ml, .int 143])), (bw, .inl (cB, 286, .inl (upd (va_cpy f (fun _ => 0) 0 0 142) 142 (sb_b ch))))]) (va_A [(x, .inr (13, [.ref bv, .int 0, .int ml, .int 142])), (bv, .inl (cB, 142, .inl f))] sz)) 1 286 (va_A [(x, .inr (13, [.ref bv, .int 0, .int ml, .int 142])), (bv, .inl (cB, 142, .inl f))] sz) := by
  refine Met.ofW (cc := c_SB_append) (maxL := 2) (ret := (some (.object "java/lang/StringBuilder"))) (by decide) rfl ?_
  intro p e s m args below meth c s₁ B hml hv
  obtain ⟨rfl, hsz, hP, hK, hD0, hE⟩ := hv
  have hx := B.exec
  have hb := B.bytes
  have hr := B.returns
  have hts := atoms_spec (ws := ws_SB_append) B.pre
  have htb := fun w (h : w ∈ TBL) => hts w (List.mem_cons_of_mem _ h)
  have hown : s.vm.findClass R_SB = some m.cls := findClass_of_methodNamed B.named
  have hlocks := B.notSynchronized
  subst hsz
  have hD := hD0.self (sz := s.heap.size)
  generalize hAe : va_A [(x, .inr (13, [.ref bv, .int 0, .int ml, .int 142])), (bv, .inl (cB, 142, .inl f))] s.heap.size = A at hD hE ⊢
  have hA : ∀ q : Nat, s.heap.size ≤ q → A q := fun q h => by rw [← hAe]; exact Or.inr h
  have hS : va_S A s.heap s.heap [] := va_S.rf
  have hP : va_P (dC, dI) vwCl [(x, .inr (13, [.ref bv, .int 0, .int ml, .int 142])), (bv, .inl (cB, 142, .inl f))] s.heap := hP
  have hl := lv_entry ([.ref x, .int (nI ch)]) (n := 2) (Nat.le_of_ble_eq_true rfl)
  rw [lg_entry_eq]
  generalize (lg_sl ([.ref x, .int (nI ch)]) ++ List.replicate (2 - (lg_sl ([.ref x, .int (nI ch)])).length) Slot.unset).toArray = ls at hl ⊢
  have hl : lv_has ls 2 [(0, .ref x), (1, .int (nI ch))] := hl
  refine lv_aload_n hx hb d_SB_append_0 rfl (lv_at hl 0 rfl) ?_
  refine lv_iload_n hx hb d_SB_append_1 rfl (lv_at hl 1 rfl) ?_
  have hPc := hP.sub (ws' := [(x, .inr (13, [.ref bv, .int 0, .int ml, .int 142])), (bv, .inl (cB, 142, .inl f))]) [0, 1] rfl
  have hDc := hD.sub (ws' := [(x, .inr (13, [.ref bv, .int 0, .int ml, .int 142])), (bv, .inl (cB, 142, .inl f))]) [0, 1] (by decide) rfl
  have hFc := va_free (wc := [(x, .inr (13, [.ref bv, .int 0, .int ml, .int 142])), (bv, .inl (cB, 142, .inl f))]) hD hS hA [0, 1] rfl
  have hKc := hK.sub (tys' := [(cB, .byte)]) [0] rfl
  refine va_callr (va_runSU (As := [.int (nI ch)]) (rest := []) (hK.1 13 _ rfl).2 ⟨hx, hb, hml, hown, htb⟩ (k_AB_append_grow_142 l dC dI _ x bv ml cB f ch em aK aV hf hch) (va_cwSU 1 htb (g_SU (fun _ h => h) m_340 m_338 m_1602 m_68 m_339 m_2) rfl rfl rfl (by decide +kernel) ⟨Nat.le_of_ble_eq_true rfl, Nat.le_of_ble_eq_true rfl⟩) ⟨fun a U g mk q => by obtain ⟨q0, q1, qP, qK, qD, z0⟩ := q; exact ⟨q0, q1, qP, va_K.moved (u := U) (U := U.calling g mk a) (Vm.Alike.refl U.vm) qK, qD, EX.same (U := U) (U' := U.calling g mk a) rfl z0⟩, va_recv hK hP (ci := 13) rfl (q0 := 0) rfl, fun U hU hW => ⟨rfl, by rw [hU], by rw [hU]; exact hPc, va_K.moved hW.alike hKc, hDc.weaken (fun _ _ _ _ => trivial), by rw [hU]; exact EX.warm hW ((hE.kept (fun a h1 h2 => hS.2.1 a h1 h2)).narrow hFc)⟩⟩ rfl rfl hl.1 rfl (lv_room (Nat.le_of_ble_eq_true rfl)) d_SB_append_2 ⟨Nat.le_of_ble_eq_true rfl, Nat.le_of_ble_eq_true rfl⟩) hS (fun q _ h => hFc q h) hFc (fun u1 ra4 t H1 locs ht hvm hw3 hB hz1 hk1 hS => ?_)
  obtain ⟨x5, hP1, hK1, hD1⟩ := hB
  rw [ht] at hP1
  have hK1 := va_K.moved hvm.symm hK1
  have hw3 : True := hw3
  obtain ⟨hP, hD⟩ := va_join (wr := []) (w1 := [(x, .inr (13, [.ref x5, .int 0, .int ml, .int 143])), (x5, .inl (cB, 286, .inl (upd (va_cpy f (fun _ => 0) 0 0 142) 142 (sb_b ch))))]) hP hD [0, 1] [] rfl rfl (by decide) (by decide) hk1 hFc hP1 hD1
  have hK := (hK.sub (tys' := []) [] rfl).app hK1
  generalize H1 = H at hP hS ⊢
  have hP : va_P (dC, dI) vwCl [(x, .inr (13, [.ref x5, .int 0, .int ml, .int 143])), (x5, .inl (cB, 286, .inl (upd (va_cpy f (fun _ => 0) 0 0 142) 142 (sb_b ch))))] H := hP
  have hD : va_D A [(x, .inr (13, [.ref x5, .int 0, .int ml, .int 143])), (x5, .inl (cB, 286, .inl (upd (va_cpy f (fun _ => 0) 0 0 142) 142 (sb_b ch))))] := hD
  have hK : va_K (dC, dI) vwCl [(cB, .byte)] s := hK
  refine W.widen (k := 1) (n := 286) (Nat.le_of_ble_eq_true rfl) (Nat.le_of_ble_eq_true rfl) ?_
  refine lv_pop hx hb d_SB_append_5 rfl ?_
  refine lv_aload_n hx hb d_SB_append_6 rfl (lv_at hl 0 rfl) ?_
  have hP9 := hP.sub (ws' := [(x, .inr (13, [.ref x5, .int 0, .int ml, .int 143])), (x5, .inl (cB, 286, .inl (upd (va_cpy f (fun _ => 0) 0 0 142) 142 (sb_b ch))))]) [0, 1] rfl
  have hD9 := hD.sub (ws' := [(x, .inr (13, [.ref x5, .int 0, .int ml, .int 143])), (x5, .inl (cB, 286, .inl (upd (va_cpy f (fun _ => 0) 0 0 142) 142 (sb_b ch))))]) [0, 1] (by decide) rfl
  have hK9 := hK.sub (tys' := [(cB, .byte)]) [0] rfl
  refine W.widen (k := 1) (n := 286) (Nat.le_of_ble_eq_true rfl) (Nat.le_of_ble_eq_true rfl) ?_
  exact W.aret (v := .ref x) hx hb hr (Or.inl ⟨_, rfl⟩) (Or.inr ⟨_, rfl⟩) (fun t ht hW => ⟨⟨(), x, rfl, trivial, ⟨x5, by rw [ht]; exact hP9, va_K.moved hW.alike hK9, hD9⟩⟩, hS.F ht⟩) hS.2.2 d_SB_append_7
