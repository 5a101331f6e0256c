abbrev NA : Nat → Prop := fun _ => False
/-- bytes of a text of codes below 128 -/
def BV (U : State) (H : Heap) (v : Nat) (t : List Nat) : Prop := va_T .byte v t.length (fun j => .int (sb_b (t.getD j 0))) NA U H ∧ (∀ c ∈ t, c < 128) ∧ t.length < 65536
/-- a String with the text t, its bytes at v -/
def SV (U : State) (H : Heap) (a v : Nat) (t : List Nat) : Prop := va_O "java/lang/String" a NA U H ∧ va_OF "java/lang/String" "coder" "B" (.int 0) a NA U H ∧ va_OF "java/lang/String" "value" "[B" (.ref v) a NA U H ∧ BV U H v t
theorem BV.moved {u U : State} {H : Heap} {v : Nat} {t : List Nat} (hvm : u.vm.Alike U.vm) (h : BV u H v t) : BV U H v t := ⟨va_T.moved hvm h.1, h.2⟩
theorem SV.moved {u U : State} {H : Heap} {a v : Nat} {t : List Nat} (hvm : u.vm.Alike U.vm) (h : SV u H a v t) : SV U H a v t := ⟨va_O.moved hvm h.1, va_OF.moved hvm h.2.1, va_OF.moved hvm h.2.2.1, h.2.2.2.moved hvm⟩
theorem SV.recv {s : State} {H : Heap} {a v : Nat} {t : List Nat} (h : SV s H a v t) : ∃ cell : Cell, H[a]? = some cell ∧ cell.vm.isStatics = false ∧ s.vm.findClass "java/lang/String" = some cell.cls := by
  obtain ⟨c9, h1, h2, h3, -⟩ := h.1
  exact ⟨c9, h1, h2, h3⟩
theorem BV.lt {U : State} {H : Heap} {v : Nat} {t : List Nat} (h : BV U H v t) (i : Nat) : t.getD i 0 < 128 := by
  by_cases hi : i < t.length
  · rw [List.getD_eq_getElem?_getD, List.getElem?_eq_getElem hi]
    exact h.2.1 _ (List.getElem_mem hi)
  · rw [List.getD_eq_getElem?_getD, List.getElem?_eq_none (by omega)]
    decide
theorem SV.same {s : State} {H : Heap} {a v v' : Nat} {t t' : List Nat} (h : SV s H a v t) (h' : SV s H a v' t') : v = v' := by
  obtain ⟨_, _, _, _, _, g1, _, g3, _, g5, -⟩ := h.2.2.1
  obtain ⟨_, _, _, _, _, k1, _, k3, _, k5, -⟩ := h'.2.2.1
  cases g1.symm.trans k1
  cases g3.symm.trans k3
  exact Value.ref.inj (Option.some.inj (g5.symm.trans k5))
set_option maxHeartbeats 1000000 in
set_option maxRecDepth 100000 in
theorem q_ST_coder (l : Launch) (dC : Nat → ClassId) (dI : Nat → Nat → Nat) (a : Nat) (v : Nat) (tx : List Nat) (em : Nat) (aK : Nat → Nat) (aV : Nat → Nat) (A : Nat → Prop) : Met l y_ST_coder ws_ST_coder ({ frames := 0, cells := 0, slots := 0, locals := 0 }) (va_Pc [.ref a] (fun U => va_P (dC, dI) vwCl [] U.heap ∧ va_K (dC, dI) vwCl [] U ∧ EX em aK aV A U U.heap ∧ SV U U.heap a v tx)) (vp_Si (fun (r : Int32) => r = 0)) 0 0 (fun _ => False) := by
  refine Met.ofW (cc := c_ST_coder) (maxL := 1) (ret := (some .byte)) (by decide) rfl ?_
  intro p e s m args below meth c s₁ B hml hv
  obtain ⟨rfl, hP, hK, hE, hSV_a⟩ := hv
  have hx := B.exec
  have hb := B.bytes
  have hr := B.returns
  have hts := atoms_spec (ws := ws_ST_coder) B.pre
  have htb := fun w (h : w ∈ TBL) => hts w (List.mem_cons_of_mem _ h)
  have hown : s.vm.findClass R_ST = some m.cls := findClass_of_methodNamed B.named
  have hlocks := B.notSynchronized
  have hl := lv_entry ([.ref a]) (n := 1) (Nat.le_of_ble_eq_true rfl)
  rw [lg_entry_eq]
  generalize (lg_sl ([.ref a]) ++ List.replicate (1 - (lg_sl ([.ref a])).length) Slot.unset).toArray = ls at hl ⊢
  have hl : lv_has ls 1 [(0, .ref a)] := hl
  have hS0 : va_S NA s.heap s.heap [] := va_S.rf
  have hSA : va_S A s.heap s.heap [] := va_S.rf
  refine va_gets hx hb hE.compact hSA hown (htb _ m_289) (fun _ h9 => h9) d_ST_coder_0 ?_
  refine lv_if_eq (tgt := 13) hx hb d_ST_coder_3 rfl (fun h9 => absurd h9 (by decide)) (fun _ => ?_)
  refine lv_aload_n hx hb d_ST_coder_6 rfl (lv_at hl 0 rfl) ?_
  refine vk_getf hx hb hSV_a.2.1 hS0 hown (htb _ m_324) (fun _ h9 => h9) d_ST_coder_7 ?_
  refine lv_goto (tgt := 14) hx hb d_ST_coder_10 rfl ?_
  exact W.zret (v := 0) hx hb hr (by decide) (fun t ht hW => ⟨0, rfl, rfl, ht⟩) (fun q h => absurd h List.not_mem_nil) d_ST_coder_14
set_option maxHeartbeats 1000000 in
set_option maxRecDepth 100000 in
theorem q_ST_isLatin1 (l : Launch) (dC : Nat → ClassId) (dI : Nat → Nat → Nat) (a : Nat) (v : Nat) (tx : List Nat) (em : Nat) (aK : Nat → Nat) (aV : Nat → Nat) (A : Nat → Prop) : Met l y_ST_isLatin1 ws_ST_isLatin1 ({ frames := 0, cells := 0, slots := 0, locals := 0 }) (va_Pc [.ref a] (fun U => va_P (dC, dI) vwCl [] U.heap ∧ va_K (dC, dI) vwCl [] U ∧ EX em aK aV A U U.heap ∧ SV U U.heap a v tx)) (vp_Si (fun (r : Int32) => r = 1)) 0 0 (fun _ => False) := by
  refine Met.ofW (cc := c_ST_isLatin1) (maxL := 1) (ret := (some .boolean)) (by decide) rfl ?_
  intro p e s m args below meth c s₁ B hml hv
  obtain ⟨rfl, hP, hK, hE, hSV_a⟩ := hv
  have hx := B.exec
  have hb := B.bytes
  have hr := B.returns
  have hts := atoms_spec (ws := ws_ST_isLatin1) B.pre
  have htb := fun w (h : w ∈ TBL) => hts w (List.mem_cons_of_mem _ h)
  have hown : s.vm.findClass R_ST = some m.cls := findClass_of_methodNamed B.named
  have hlocks := B.notSynchronized
  have hl := lv_entry ([.ref a]) (n := 1) (Nat.le_of_ble_eq_true rfl)
  rw [lg_entry_eq]
  generalize (lg_sl ([.ref a]) ++ List.replicate (1 - (lg_sl ([.ref a])).length) Slot.unset).toArray = ls at hl ⊢
  have hl : lv_has ls 1 [(0, .ref a)] := hl
  have hS0 : va_S NA s.heap s.heap [] := va_S.rf
  have hSA : va_S A s.heap s.heap [] := va_S.rf
  refine va_gets hx hb hE.compact hSA hown (htb _ m_289) (fun _ h9 => h9) d_ST_isLatin1_0 ?_
  refine lv_if_eq (tgt := 17) hx hb d_ST_isLatin1_3 rfl (fun h9 => absurd h9 (by decide)) (fun _ => ?_)
  refine lv_aload_n hx hb d_ST_isLatin1_6 rfl (lv_at hl 0 rfl) ?_
  refine vk_getf hx hb hSV_a.2.1 hS0 hown (htb _ m_324) (fun _ h9 => h9) d_ST_isLatin1_7 ?_
  refine lv_if_ne (tgt := 17) hx hb d_ST_isLatin1_10 rfl (fun h9 => absurd (rfl) h9) (fun _ => ?_)
  refine lv_iconst (v := 1) hx hb d_ST_isLatin1_13 (by decide) ?_
  refine lv_goto (tgt := 18) hx hb d_ST_isLatin1_14 rfl ?_
  exact W.zret (v := 1) hx hb hr (by decide) (fun t ht hW => ⟨1, rfl, rfl, ht⟩) (fun q h => absurd h List.not_mem_nil) d_ST_isLatin1_18
set_option maxHeartbeats 1000000 in
set_option maxRecDepth 100000 in
/-- length() -/
theorem q_ST_length (l : Launch) (dC : Nat → ClassId) (dI : Nat → Nat → Nat) (a : Nat) (v : Nat) (tx : List Nat) (em : Nat) (aK : Nat → Nat) (aV : Nat → Nat) (A : Nat → Prop) : Met l y_ST_length ws_ST_length ({ frames := 1, cells := 0, slots := 0, locals := 20 }) (va_Pc [.ref a] (fun U => va_P (dC, dI) vwCl [] U.heap ∧ va_K (dC, dI) vwCl [] U ∧ EX em aK aV A U U.heap ∧ SV U U.heap a v tx)) (vp_Si (fun (r : Int32) => r = nI tx.length)) 0 0 (fun _ => False) := by
  refine Met.ofW (cc := c_ST_length) (maxL := 1) (ret := (some .int)) (by decide) rfl ?_
  intro p e s m args below meth c s₁ B hml hv
  obtain ⟨rfl, hP, hK, hE, hSV_a⟩ := hv
  have hx := B.exec
  have hb := B.bytes
  have hr := B.returns
  have hts := atoms_spec (ws := ws_ST_length) B.pre
  have htb := fun w (h : w ∈ TBL) => hts w (List.mem_cons_of_mem _ h)
  have hown : s.vm.findClass R_ST = some m.cls := findClass_of_methodNamed B.named
  have hlocks := B.notSynchronized
  have hl := lv_entry ([.ref a]) (n := 1) (Nat.le_of_ble_eq_true rfl)
  rw [lg_entry_eq]
  generalize (lg_sl ([.ref a]) ++ List.replicate (1 - (lg_sl ([.ref a])).length) Slot.unset).toArray = ls at hl ⊢
  have hl : lv_has ls 1 [(0, .ref a)] := hl
  have hS0 : va_S NA s.heap s.heap [] := va_S.rf
  have hSA : va_S A s.heap s.heap [] := va_S.rf
  refine lv_aload_n hx hb d_ST_length_0 rfl (lv_at hl 0 rfl) ?_
  refine vk_getf hx hb hSV_a.2.2.1 hS0 hown (htb _ m_323) (fun _ h9 => h9) d_ST_length_1 ?_
  refine va_tlen (v := nI (tx).length) hx hb hSV_a.2.2.2.1 hS0 rfl d_ST_length_4 ?_
  refine lv_aload_n hx hb d_ST_length_5 rfl (lv_at hl 0 rfl) ?_
  have hPc : va_P (dC, dI) vwCl [] _ := hP.sub (ws' := []) [] rfl
  have hKc := hK.sub (tys' := []) [] rfl
  refine vp_callSi (W.runV (As := []) (rest := [.int (nI tx.length)]) ⟨hx, hb, hml, hown, htb⟩ (q_ST_coder l dC dI a v tx em aK aV A ) (cwV 0 htb (g_V (fun _ h => h) m_456 m_453 m_454 m_455 m_4) rfl rfl rfl (by decide +kernel) ⟨Nat.le_of_ble_eq_true rfl, Nat.le_of_ble_eq_true rfl⟩) ⟨fun a U g mk q => by obtain ⟨q0, qP, qK, z0, z1⟩ := q; exact ⟨q0, qP, va_K.moved (u := U) (U := U.calling g mk a) (Vm.Alike.refl U.vm) qK, EX.same (U := U) (U' := U.calling g mk a) rfl z0, SV.moved (Vm.Alike.refl U.vm) z1⟩, hSV_a.recv, fun U hU hW => ⟨rfl, by rw [hU]; exact hPc, va_K.moved hW.alike hKc, by rw [hU]; exact EX.warm hW hE, by rw [hU]; exact SV.moved hW.alike hSV_a⟩⟩ rfl rfl hl.1 rfl (lv_room (Nat.le_of_ble_eq_true rfl)) d_ST_length_6 ⟨Nat.le_of_ble_eq_true rfl, Nat.le_of_ble_eq_true rfl⟩) (fun r1 hw2 => ?_)
  have hw2 : r1 = 0 := hw2
  obtain rfl := hw2
  refine lv_ishr hx hb d_ST_length_9 ?_
  have hlt : tx.length < 65536 := hSV_a.2.2.2.2.2
  refine W.eq (congrArg (fun z => F0 m 10 ls (.int z :: [])) (sc_shr0 (by omega) : (nI tx.length >>> ((0 : Int32) &&& 31)) = nI tx.length)) ?_
  exact W.iret (v := (nI tx.length)) hx hb hr (fun t ht hW => ⟨(nI tx.length), rfl, rfl, ht⟩) (fun q h => absurd h List.not_mem_nil) d_ST_length_10
set_option maxHeartbeats 1000000 in
set_option maxRecDepth 100000 in
theorem q_ST_checkIndex (l : Launch) (dC : Nat → ClassId) (dI : Nat → Nat → Nat) (i : Nat) (n : Nat) (em : Nat) (aK : Nat → Nat) (aV : Nat → Nat) (A : Nat → Prop) (hi : i < n) (hn : n < 2 ^ 31) : Met l y_ST_checkIndex ws_ST_checkIndex ({ frames := 1, cells := 0, slots := 0, locals := 22 }) (va_Pc [.int (nI i), .int (nI n)] (fun U => va_P (dC, dI) vwCl [] U.heap ∧ va_K (dC, dI) vwCl [] U ∧ EX em aK aV A U U.heap)) (va_Sv (fun _ => True)) 0 0 (fun _ => False) := by
  refine Met.ofW (cc := c_ST_checkIndex) (maxL := 2) (ret := none) (by decide) rfl ?_
  intro p e s m args below meth c s₁ B hml hv
  obtain ⟨rfl, hP, hK, hE⟩ := hv
  have hx := B.exec
  have hb := B.bytes
  have hr := B.returns
  have hts := atoms_spec (ws := ws_ST_checkIndex) B.pre
  have htb := fun w (h : w ∈ TBL) => hts w (List.mem_cons_of_mem _ h)
  have hown : s.vm.findClass R_ST = some m.cls := findClass_of_methodNamed B.named
  have hlocks := B.notSynchronized
  have hl := lv_entry ([.int (nI i), .int (nI n)]) (n := 2) (Nat.le_of_ble_eq_true rfl)
  rw [lg_entry_eq]
  generalize (lg_sl ([.int (nI i), .int (nI n)]) ++ List.replicate (2 - (lg_sl ([.int (nI i), .int (nI n)])).length) Slot.unset).toArray = ls at hl ⊢
  have hl : lv_has ls 2 [(0, .int (nI i)), (1, .int (nI n))] := hl
  have hS0 : va_S NA s.heap s.heap [] := va_S.rf
  have hSA : va_S A s.heap s.heap [] := va_S.rf
  refine lv_iload_n hx hb d_ST_checkIndex_0 rfl (lv_at hl 0 rfl) ?_
  refine lv_iload_n hx hb d_ST_checkIndex_1 rfl (lv_at hl 1 rfl) ?_
  rcases hE.form with hz | ⟨fm, hz⟩
  · refine va_gets hx hb hz hSA hown (htb _ m_305) (fun _ h9 => h9) d_ST_checkIndex_2 ?_
    have hPc : va_P (dC, dI) vwCl [] _ := hP.sub (ws' := []) [] rfl
    have hKc := hK.sub (tys' := []) [] rfl
    refine vp_callSi (W.runS (As := [.int (nI i), .int (nI n), .null]) (rest := []) ⟨hx, hb, hml, hown, htb⟩ (q_PC_checkIndex_n l dC dI i n hi hn) (va_cwS 3 htb (g_S (fun _ h => h) m_368 m_366 m_367 m_17) rfl rfl rfl (by decide +kernel) ⟨Nat.le_of_ble_eq_true rfl, Nat.le_of_ble_eq_true rfl⟩) ⟨fun a U g mk q => by obtain ⟨q0, qP, qK⟩ := q; exact ⟨q0, qP, va_K.moved (u := U) (U := U.calling g mk a) (Vm.Alike.refl U.vm) qK⟩, fun U hU hW => ⟨rfl, by rw [hU]; exact hPc, va_K.moved hW.alike hKc⟩⟩ rfl rfl hl.1 rfl (lv_room (Nat.le_of_ble_eq_true rfl)) d_ST_checkIndex_5 ⟨Nat.le_of_ble_eq_true rfl, Nat.le_of_ble_eq_true rfl⟩) (fun r1 hw2 => ?_)
    have hw2 : r1 = nI i := hw2
    refine lv_pop hx hb d_ST_checkIndex_8 rfl ?_
    exact W.vret hx hb hr (fun t ht hW => ⟨rfl, trivial, ht⟩) (fun q h => absurd h List.not_mem_nil) d_ST_checkIndex_9
  · refine va_gets hx hb hz hSA hown (htb _ m_305) (fun _ h9 => h9) d_ST_checkIndex_2 ?_
    have hPc : va_P (dC, dI) vwCl [] _ := hP.sub (ws' := []) [] rfl
    have hKc := hK.sub (tys' := []) [] rfl
    refine vp_callSi (W.runS (As := [.int (nI i), .int (nI n), .ref fm]) (rest := []) ⟨hx, hb, hml, hown, htb⟩ (q_PC_checkIndex_r l dC dI i n fm hi hn) (va_cwS 3 htb (g_S (fun _ h => h) m_368 m_366 m_367 m_17) rfl rfl rfl (by decide +kernel) ⟨Nat.le_of_ble_eq_true rfl, Nat.le_of_ble_eq_true rfl⟩) ⟨fun a U g mk q => by obtain ⟨q0, qP, qK⟩ := q; exact ⟨q0, qP, va_K.moved (u := U) (U := U.calling g mk a) (Vm.Alike.refl U.vm) qK⟩, fun U hU hW => ⟨rfl, by rw [hU]; exact hPc, va_K.moved hW.alike hKc⟩⟩ rfl rfl hl.1 rfl (lv_room (Nat.le_of_ble_eq_true rfl)) d_ST_checkIndex_5 ⟨Nat.le_of_ble_eq_true rfl, Nat.le_of_ble_eq_true rfl⟩) (fun r1 hw2 => ?_)
    have hw2 : r1 = nI i := hw2
    refine lv_pop hx hb d_ST_checkIndex_8 rfl ?_
    exact W.vret hx hb hr (fun t ht hW => ⟨rfl, trivial, ht⟩) (fun q h => absurd h List.not_mem_nil) d_ST_checkIndex_9
set_option maxHeartbeats 1000000 in
set_option maxRecDepth 100000 in
theorem q_LT_charAt (l : Launch) (dC : Nat → ClassId) (dI : Nat → Nat → Nat) (v : Nat) (tx : List Nat) (i : Nat) (em : Nat) (aK : Nat → Nat) (aV : Nat → Nat) (A : Nat → Prop) (hi : i < tx.length) : Met l y_LT_charAt ws_LT_charAt ({ frames := 2, cells := 0, slots := 0, locals := 43 }) (va_Pc [.ref v, .int (nI i)] (fun U => va_P (dC, dI) vwCl [] U.heap ∧ va_K (dC, dI) vwCl [] U ∧ EX em aK aV A U U.heap ∧ BV U U.heap v tx)) (vp_Si (fun (r : Int32) => r = nI (tx.getD i 0))) 0 0 (fun _ => False) := by
  refine Met.ofW (cc := c_LT_charAt) (maxL := 2) (ret := (some .char)) (by decide) rfl ?_
  intro p e s m args below meth c s₁ B hml hv
  obtain ⟨rfl, hP, hK, hE, hBV_v⟩ := hv
  have hx := B.exec
  have hb := B.bytes
  have hr := B.returns
  have hts := atoms_spec (ws := ws_LT_charAt) B.pre
  have htb := fun w (h : w ∈ TBL) => hts w (List.mem_cons_of_mem _ h)
  have hown : s.vm.findClass R_LT = some m.cls := findClass_of_methodNamed B.named
  have hlocks := B.notSynchronized
  have hl := lv_entry ([.ref v, .int (nI i)]) (n := 2) (Nat.le_of_ble_eq_true rfl)
  rw [lg_entry_eq]
  generalize (lg_sl ([.ref v, .int (nI i)]) ++ List.replicate (2 - (lg_sl ([.ref v, .int (nI i)])).length) Slot.unset).toArray = ls at hl ⊢
  have hl : lv_has ls 2 [(0, .ref v), (1, .int (nI i))] := hl
  have hS0 : va_S NA s.heap s.heap [] := va_S.rf
  have hSA : va_S A s.heap s.heap [] := va_S.rf
  have hlt : tx.length < 65536 := hBV_v.2.2
  have hcl := hBV_v.lt i
  refine lv_iload_n hx hb d_LT_charAt_0 rfl (lv_at hl 1 rfl) ?_
  refine lv_aload_n hx hb d_LT_charAt_1 rfl (lv_at hl 0 rfl) ?_
  refine va_tlen (v := nI (tx).length) hx hb hBV_v.1 hS0 rfl d_LT_charAt_2 ?_
  have hPc : va_P (dC, dI) vwCl [] _ := hP.sub (ws' := []) [] rfl
  have hKc := hK.sub (tys' := []) [] rfl
  refine va_csv (W.runS (As := [.int (nI i), .int (nI tx.length)]) (rest := []) ⟨hx, hb, hml, hown, htb⟩ (q_ST_checkIndex l dC dI i tx.length em aK aV A hi (by omega)) (va_cwS 2 htb (g_S (fun _ h => h) m_365 m_468 m_364 m_4) rfl rfl rfl (by decide +kernel) ⟨Nat.le_of_ble_eq_true rfl, Nat.le_of_ble_eq_true rfl⟩) ⟨fun a U g mk q => by obtain ⟨q0, qP, qK, z0⟩ := q; exact ⟨q0, qP, va_K.moved (u := U) (U := U.calling g mk a) (Vm.Alike.refl U.vm) qK, EX.same (U := U) (U' := U.calling g mk a) rfl z0⟩, fun U hU hW => ⟨rfl, by rw [hU]; exact hPc, va_K.moved hW.alike hKc, by rw [hU]; exact EX.warm hW hE⟩⟩ rfl rfl hl.1 rfl (lv_room (Nat.le_of_ble_eq_true rfl)) d_LT_charAt_3 ⟨Nat.le_of_ble_eq_true rfl, Nat.le_of_ble_eq_true rfl⟩) (fun hw2 => ?_)
  have hw2 : True := hw2
  refine lv_aload_n hx hb d_LT_charAt_6 rfl (lv_at hl 0 rfl) ?_
  refine lv_iload_n hx hb d_LT_charAt_7 rfl (lv_at hl 1 rfl) ?_
  refine va_tb (v := .int (sb_b (tx.getD i 0))) hx hb hBV_v.1 hS0 (vp_in_nI hi (by omega)) (by rw [nI_clamp (by omega)]) d_LT_charAt_8 ?_
  refine lv_sipush (v := 255) hx hb d_LT_charAt_9 (by decide) ?_
  refine lv_iand hx hb d_LT_charAt_12 ?_
  refine W.eq (congrArg (fun z => F0 m 13 ls (.int z :: [])) ((sb_byte _ (by omega)).1 : ((sb_b (tx.getD i 0)) &&& 255) = nI (tx.getD i 0))) ?_
  refine lv_i2c hx hb d_LT_charAt_13 rfl ?_
  refine W.eq (congrArg (fun z => F0 m 14 ls (.int z :: [])) ((sb_byte _ (by omega)).2.1 : (((nI (tx.getD i 0)).toUInt32 % 65536).toInt32) = nI (tx.getD i 0))) ?_
  exact W.zret (v := (nI (tx.getD i 0))) hx hb hr ((pk_charN (by omega)).1) (fun t ht hW => ⟨(nI (tx.getD i 0)), rfl, rfl, ht⟩) (fun q h => absurd h List.not_mem_nil) d_LT_charAt_14
set_option maxHeartbeats 1000000 in
set_option maxRecDepth 100000 in
/-- charAt(i) -/
theorem q_ST_charAt (l : Launch) (dC : Nat → ClassId) (dI : Nat → Nat → Nat) (a : Nat) (v : Nat) (tx : List Nat) (em : Nat) (aK : Nat → Nat) (aV : Nat → Nat) (A : Nat → Prop) (i : Nat) (hi : i < tx.length) : Met l y_ST_charAt ws_ST_charAt ({ frames := 3, cells := 0, slots := 0, locals := 64 }) (va_Pc [.ref a, .int (nI i)] (fun U => va_P (dC, dI) vwCl [] U.heap ∧ va_K (dC, dI) vwCl [] U ∧ EX em aK aV A U U.heap ∧ SV U U.heap a v tx)) (vp_Si (fun (r : Int32) => r = nI (tx.getD i 0))) 0 0 (fun _ => False) := by
  refine Met.ofW (cc := c_ST_charAt) (maxL := 2) (ret := (some .char)) (by decide) rfl ?_
  intro p e s m args below meth c s₁ B hml hv
  obtain ⟨rfl, hP, hK, hE, hSV_a⟩ := hv
  have hx := B.exec
  have hb := B.bytes
  have hr := B.returns
  have hts := atoms_spec (ws := ws_ST_charAt) B.pre
  have htb := fun w (h : w ∈ TBL) => hts w (List.mem_cons_of_mem _ h)
  have hown : s.vm.findClass R_ST = some m.cls := findClass_of_methodNamed B.named
  have hlocks := B.notSynchronized
  have hl := lv_entry ([.ref a, .int (nI i)]) (n := 2) (Nat.le_of_ble_eq_true rfl)
  rw [lg_entry_eq]
  generalize (lg_sl ([.ref a, .int (nI i)]) ++ List.replicate (2 - (lg_sl ([.ref a, .int (nI i)])).length) Slot.unset).toArray = ls at hl ⊢
  have hl : lv_has ls 2 [(0, .ref a), (1, .int (nI i))] := hl
  have hS0 : va_S NA s.heap s.heap [] := va_S.rf
  have hSA : va_S A s.heap s.heap [] := va_S.rf
  have hBV_v := hSV_a.2.2.2
  have hcl := hBV_v.lt i
  refine lv_aload_n hx hb d_ST_charAt_0 rfl (lv_at hl 0 rfl) ?_
  have hPc : va_P (dC, dI) vwCl [] _ := hP.sub (ws' := []) [] rfl
  have hKc := hK.sub (tys' := []) [] rfl
  refine vp_callSi (W.runV (As := []) (rest := []) ⟨hx, hb, hml, hown, htb⟩ (q_ST_isLatin1 l dC dI a v tx em aK aV A ) (cwV 0 htb (g_V (fun _ h => h) m_464 m_461 m_462 m_463 m_4) rfl rfl rfl (by decide +kernel) ⟨Nat.le_of_ble_eq_true rfl, Nat.le_of_ble_eq_true rfl⟩) ⟨fun a U g mk q => by obtain ⟨q0, qP, qK, z0, z1⟩ := q; exact ⟨q0, qP, va_K.moved (u := U) (U := U.calling g mk a) (Vm.Alike.refl U.vm) qK, EX.same (U := U) (U' := U.calling g mk a) rfl z0, SV.moved (Vm.Alike.refl U.vm) z1⟩, hSV_a.recv, fun U hU hW => ⟨rfl, by rw [hU]; exact hPc, va_K.moved hW.alike hKc, by rw [hU]; exact EX.warm hW hE, by rw [hU]; exact SV.moved hW.alike hSV_a⟩⟩ rfl rfl hl.1 rfl (lv_room (Nat.le_of_ble_eq_true rfl)) d_ST_charAt_1 ⟨Nat.le_of_ble_eq_true rfl, Nat.le_of_ble_eq_true rfl⟩) (fun r1 hw2 => ?_)
  have hw2 : r1 = 1 := hw2
  refine lv_if_eq (tgt := 16) hx hb d_ST_charAt_4 rfl (fun h9 => absurd h9 (by rw [hw2]; decide)) (fun _ => ?_)
  refine lv_aload_n hx hb d_ST_charAt_7 rfl (lv_at hl 0 rfl) ?_
  refine vk_getf hx hb hSV_a.2.2.1 hS0 hown (htb _ m_323) (fun _ h9 => h9) d_ST_charAt_8 ?_
  refine lv_iload_n hx hb d_ST_charAt_11 rfl (lv_at hl 1 rfl) ?_
  have hPc : va_P (dC, dI) vwCl [] _ := hP.sub (ws' := []) [] rfl
  have hKc := hK.sub (tys' := []) [] rfl
  refine vp_callSi (W.runS (As := [.ref v, .int (nI i)]) (rest := []) ⟨hx, hb, hml, hown, htb⟩ (q_LT_charAt l dC dI v tx i em aK aV A hi) (va_cwS 2 htb (g_S (fun _ h => h) m_467 m_465 m_466 m_16) rfl rfl rfl (by decide +kernel) ⟨Nat.le_of_ble_eq_true rfl, Nat.le_of_ble_eq_true rfl⟩) ⟨fun a U g mk q => by obtain ⟨q0, qP, qK, z0, z1⟩ := q; exact ⟨q0, qP, va_K.moved (u := U) (U := U.calling g mk a) (Vm.Alike.refl U.vm) qK, EX.same (U := U) (U' := U.calling g mk a) rfl z0, BV.moved (Vm.Alike.refl U.vm) z1⟩, fun U hU hW => ⟨rfl, by rw [hU]; exact hPc, va_K.moved hW.alike hKc, by rw [hU]; exact EX.warm hW hE, by rw [hU]; exact BV.moved hW.alike hBV_v⟩⟩ rfl rfl hl.1 rfl (lv_room (Nat.le_of_ble_eq_true rfl)) d_ST_charAt_12 ⟨Nat.le_of_ble_eq_true rfl, Nat.le_of_ble_eq_true rfl⟩) (fun r3 hw4 => ?_)
  have hw4 : r3 = nI (tx.getD i 0) := hw4
  obtain rfl := hw4
  exact W.zret (v := (nI (tx.getD i 0))) hx hb hr ((pk_charN (by omega)).1) (fun t ht hW => ⟨(nI (tx.getD i 0)), rfl, rfl, ht⟩) (fun q h => absurd h List.not_mem_nil) d_ST_charAt_15
