theorem sub_cpy {tx : List Nat} {f : Nat → Int32} {i0 n : Nat} (hf : ∀ i, i < tx.length → f i = sb_b (tx.getD i 0)) (h : i0 + n ≤ tx.length) : ∀ i, i < ((tx.drop i0).take n).length → (va_cpy f (fun _ => 0) i0 0 n) i = sb_b (((tx.drop i0).take n).getD i 0) := by
  intro i hi
  rw [List.length_take, List.length_drop] at hi
  have hin : i < n := by omega
  unfold va_cpy
  rw [if_pos (by omega), Nat.sub_zero, hf _ (by omega)]
  congr 1
  simp only [List.getD_eq_getElem?_getD, List.getElem?_take, List.getElem?_drop, if_pos hin]
theorem perm_mem {α : Type} {x : α} {l : List α} (h : x ∈ l) : ∃ l2, (x :: l2).Perm l := by
  obtain ⟨a, b, rfl⟩ := List.append_of_mem h
  exact ⟨a ++ b, List.perm_middle.symm⟩
set_option maxHeartbeats 1000000 in
set_option maxRecDepth 100000 in
theorem q_LT_canEncode2 (l : Launch) (dC : Nat → ClassId) (dI : Nat → Nat → Nat) (k : Nat) (hk : k < 128) : Met l y_LT_canEncode2 ws_LT_canEncode2 ({ frames := 0, cells := 0, slots := 0, locals := 0 }) (va_Pc [.int (nI k)] (fun U => va_P (dC, dI) vwCl [] U.heap ∧ va_K (dC, dI) vwCl [] U)) (vp_Si (fun (r : Int32) => r = 1)) 0 0 (fun _ => False) := by
  refine Met.ofW (cc := c_LT_canEncode2) (maxL := 1) (ret := (some .boolean)) (by decide) rfl ?_
  intro p e s m args below meth c s₁ B hml hv
  obtain ⟨rfl, hP, hK⟩ := hv
  have hx := B.exec
  have hb := B.bytes
  have hr := B.returns
  have hts := atoms_spec (ws := ws_LT_canEncode2) B.pre
  have htb := fun w (h : w ∈ TBL) => hts w (List.mem_cons_of_mem _ h)
  have hown : s.vm.findClass R_LT = some m.cls := findClass_of_methodNamed B.named
  have hlocks := B.notSynchronized
  have hl := lv_entry ([.int (nI k)]) (n := 1) (Nat.le_of_ble_eq_true rfl)
  rw [lg_entry_eq]
  generalize (lg_sl ([.int (nI k)]) ++ List.replicate (1 - (lg_sl ([.int (nI k)])).length) Slot.unset).toArray = ls at hl ⊢
  have hl : lv_has ls 1 [(0, .int (nI k))] := hl
  refine lv_iload_n hx hb d_LT_canEncode2_0 rfl (lv_at hl 0 rfl) ?_
  refine lv_if_lt (tgt := 15) hx hb d_LT_canEncode2_1 rfl (fun h9 => absurd h9 (nI_pos (by omega))) (fun _ => ?_)
  refine lv_iload_n hx hb d_LT_canEncode2_4 rfl (lv_at hl 0 rfl) ?_
  refine lv_sipush (v := 255) hx hb d_LT_canEncode2_5 (by decide) ?_
  refine lv_icmp_gt (tgt := 15) hx hb d_LT_canEncode2_8 rfl (fun h9 => absurd h9 (fun h => by have := (nI_ltI (a := 255) (by decide) (by omega)).mp h; omega)) (fun _ => ?_)
  refine lv_iconst (v := 1) hx hb d_LT_canEncode2_11 (by decide) ?_
  refine lv_goto (tgt := 16) hx hb d_LT_canEncode2_12 rfl ?_
  exact W.zret (v := 1) hx hb hr (by decide) (fun t ht hW => ⟨1, rfl, rfl, ht⟩) (fun q h => absurd h List.not_mem_nil) d_LT_canEncode2_16
set_option maxHeartbeats 1000000 in
set_option maxRecDepth 100000 in
/-- indexOfChar -/
theorem q_LT_indexOfChar (l : Launch) (dC : Nat → ClassId) (dI : Nat → Nat → Nat) (v : Nat) (tx : List Nat) (k : Nat) (em : Nat) (aK : Nat → Nat) (aV : Nat → Nat) (A : Nat → Prop) (hk : k < 128) : Met l y_LT_indexOfChar ws_LT_indexOfChar ({ frames := 0, cells := 0, slots := 0, locals := 0 }) (va_Pc [.ref v, .int (nI k), .int 0, .int (nI tx.length)] (fun U => va_P (dC, dI) vwCl [] U.heap ∧ va_K (dC, dI) vwCl [] U ∧ EX em aK aV A U U.heap ∧ BV U U.heap v tx)) (vp_Si (fun (r : Int32) => (r < 0 ∧ k ∉ tx) ∨ (¬ r < 0 ∧ k ∈ tx))) 0 0 (fun _ => False) := by
  refine Met.ofW (cc := c_LT_indexOfChar) (maxL := 6) (ret := (some .int)) (by decide) rfl ?_
  intro p e s m args below meth c s₁ B hml hv
  obtain ⟨hargs, hP, hK, hE, hBV_v⟩ := hv
  rw [show entryFrame m args 6 = entryFrame m ([.ref v, .int (nI k), .int 0, .int (nI tx.length)]).toArray 6 by rw [hargs]]
  have hx := B.exec
  have hb := B.bytes
  have hr := B.returns
  have hts := atoms_spec (ws := ws_LT_indexOfChar) B.pre
  have htb := fun w (h : w ∈ TBL) => hts w (List.mem_cons_of_mem _ h)
  have hown : s.vm.findClass R_LT = some m.cls := findClass_of_methodNamed B.named
  have hlocks := B.notSynchronized
  have hl := lv_entry ([.ref v, .int (nI k), .int 0, .int (nI tx.length)]) (n := 6) (Nat.le_of_ble_eq_true rfl)
  rw [lg_entry_eq]
  generalize (lg_sl ([.ref v, .int (nI k), .int 0, .int (nI tx.length)]) ++ List.replicate (6 - (lg_sl ([.ref v, .int (nI k), .int 0, .int (nI tx.length)])).length) Slot.unset).toArray = ls at hl ⊢
  have hl : lv_has ls 6 [(0, .ref v), (1, .int (nI k)), (2, .int 0), (3, .int (nI tx.length))] := hl
  refine zz_nQ (fun Q hQ => ?_)
  have hS0 : va_S NA s.heap s.heap [] := va_S.rf
  have hSA : va_S A s.heap s.heap [] := va_S.rf
  have hlt : tx.length < 65536 := hBV_v.2.2
  refine lv_iload_n hx hb d_LT_indexOfChar_0 rfl (lv_at hl 1 rfl) ?_
  refine lv_i2b hx hb d_LT_indexOfChar_1 rfl ?_
  refine W.eq (congrArg (fun z => F0 m 2 ls (.int z :: [])) (rfl : ((nI k).toInt8.toInt32) = sb_b k)) ?_
  refine lv_istore hx hb d_LT_indexOfChar_2 hl (by decide) rfl (fun ls hl => ?_)
  have hl : lv_has ls 6 [(4, .int (sb_b k)), (0, .ref v), (1, .int (nI k)), (2, .int 0), (3, .int (nI tx.length))] := hl
  refine lv_iload_n hx hb d_LT_indexOfChar_4 rfl (lv_at hl 3 rfl) ?_
  refine lv_istore hx hb d_LT_indexOfChar_5 hl (by decide) rfl (fun ls hl => ?_)
  have hl : lv_has ls 6 [(5, .int 0), (4, .int (sb_b k)), (0, .ref v), (1, .int (nI k)), (2, .int 0), (3, .int (nI tx.length))] := hl
  have hloop : ∀ (k9 : Nat) (i : Nat) (ls : Array Slot), tx.length - i = k9 → (i ≤ tx.length) → (∀ q, q < i → tx.getD q 0 ≠ k) → lv_has ls 6 [(5, .int (nI i)), (4, .int (sb_b k)), (0, .ref v), (3, .int (nI tx.length))] → W p l e (headSpec ws_LT_indexOfChar ({ frames := 0, cells := 0, slots := 0, locals := 0 })).room s m args below meth c s.heap [] 0 0 Q (F0 m 7 ls []) := by
    intro k9
    induction k9 using Nat.strongRecOn with
    | ind k9 ih =>
      intro i ls hk9 hi1 hi2 hl
      refine lv_iload hx hb d_LT_indexOfChar_7 (lv_at hl 0 rfl) ?_
      refine lv_iload_n hx hb d_LT_indexOfChar_9 rfl (lv_at hl 3 rfl) ?_
      refine lv_icmp_ge (tgt := 31) hx hb d_LT_indexOfChar_10 rfl (fun h1 => ?_) (fun h1 => ?_)
      · have h1 : tx.length ≤ i := (nI_leI (by omega) (by omega)).mp h1
        refine lv_iconst (v := (-1)) hx hb d_LT_indexOfChar_31 (by decide) ?_
        rw [hQ]
        exact W.iret (v := (-1)) hx hb hr (fun t ht hW => ⟨(-1), rfl, Or.inl ⟨by decide, fun hm => by obtain ⟨q9, hq9, he⟩ := List.mem_iff_getElem.mp hm; exact hi2 q9 (by omega) (by rw [List.getD_eq_getElem?_getD, List.getElem?_eq_getElem hq9]; exact he)⟩, ht⟩) (fun q h => absurd h List.not_mem_nil) d_LT_indexOfChar_32
      · have h1 : i < tx.length := Nat.not_le.mp (fun h => h1 ((nI_leI (by omega) (by omega)).mpr h))
        have hcl := hBV_v.lt i
        refine lv_aload_n hx hb d_LT_indexOfChar_13 rfl (lv_at hl 2 rfl) ?_
        refine lv_iload hx hb d_LT_indexOfChar_14 (lv_at hl 0 rfl) ?_
        refine va_tb (v := .int (sb_b (tx.getD i 0))) hx hb hBV_v.1 hS0 (vp_in_nI h1 (by omega)) (by rw [nI_clamp (by omega)]) d_LT_indexOfChar_16 ?_
        refine lv_iload hx hb d_LT_indexOfChar_17 (lv_at hl 1 rfl) ?_
        refine lv_icmp_ne (tgt := 25) hx hb d_LT_indexOfChar_19 rfl (fun h2 => ?_) (fun h2 => ?_)
        · have h2 : tx.getD i 0 ≠ k := fun h => h2 (by rw [h])
          refine lv_iinc (k := 0) (v := ((nI i) + Int32.ofInt 1)) hx hb d_LT_indexOfChar_25 hl rfl rfl (by decide) rfl (fun ls hl => ?_)
          have hl : lv_has ls 6 [(5, .int ((nI i) + Int32.ofInt 1)), (4, .int (sb_b k)), (0, .ref v), (3, .int (nI tx.length))] := hl
          rw [show nI i + Int32.ofInt 1 = nI (i + 1) from nI_1 _] at hl
          refine lv_goto (tgt := 7) hx hb d_LT_indexOfChar_28 rfl ?_
          exact ih (tx.length - (i + 1)) (by omega) (i + 1) ls rfl (h1) (fun q hq => by rcases Nat.lt_succ_iff_lt_or_eq.mp hq with h | rfl; exact hi2 q h; exact h2) (lv_sub hl [0, 1, 2, 3] rfl)
        · have h2 : tx.getD i 0 = k := sb_inj (by omega) hk h2
          refine lv_iload hx hb d_LT_indexOfChar_22 (lv_at hl 0 rfl) ?_
          rw [hQ]
          exact W.iret (v := (nI i)) hx hb hr (fun t ht hW => ⟨(nI i), rfl, Or.inr ⟨nI_pos (by omega), by rw [← h2, List.getD_eq_getElem?_getD, List.getElem?_eq_getElem h1]; exact List.getElem_mem h1⟩, ht⟩) (fun q h => absurd h List.not_mem_nil) d_LT_indexOfChar_24
  exact hloop _ 0 ls rfl (Nat.zero_le _) (fun q hq => absurd hq (Nat.not_lt_zero _)) (lv_sub hl [0, 1, 2, 5] rfl)
set_option maxHeartbeats 1000000 in
set_option maxRecDepth 100000 in
/-- indexOf -/
theorem q_LT_indexOf (l : Launch) (dC : Nat → ClassId) (dI : Nat → Nat → Nat) (v : Nat) (tx : List Nat) (k : Nat) (em : Nat) (aK : Nat → Nat) (aV : Nat → Nat) (A : Nat → Prop) (hk : k < 128) : Met l y_LT_indexOf ws_LT_indexOf ({ frames := 1, cells := 0, slots := 0, locals := 25 }) (va_Pc [.ref v, .int (nI k), .int 0, .int (nI tx.length)] (fun U => va_P (dC, dI) vwCl [] U.heap ∧ va_K (dC, dI) vwCl [] U ∧ EX em aK aV A U U.heap ∧ BV U U.heap v tx)) (vp_Si (fun (r : Int32) => (r < 0 ∧ k ∉ tx) ∨ (¬ r < 0 ∧ k ∈ tx))) 0 0 (fun _ => False) := by
  refine Met.ofW (cc := c_LT_indexOf) (maxL := 4) (ret := (some .int)) (by decide) rfl ?_
  intro p e s m args below meth c s₁ B hml hv
  obtain ⟨rfl, hP, hK, hE, hBV_v⟩ := hv
  have hx := B.exec
  have hb := B.bytes
  have hr := B.returns
  have hts := atoms_spec (ws := ws_LT_indexOf) B.pre
  have htb := fun w (h : w ∈ TBL) => hts w (List.mem_cons_of_mem _ h)
  have hown : s.vm.findClass R_LT = some m.cls := findClass_of_methodNamed B.named
  have hlocks := B.notSynchronized
  have hl := lv_entry ([.ref v, .int (nI k), .int 0, .int (nI tx.length)]) (n := 4) (Nat.le_of_ble_eq_true rfl)
  rw [lg_entry_eq]
  generalize (lg_sl ([.ref v, .int (nI k), .int 0, .int (nI tx.length)]) ++ List.replicate (4 - (lg_sl ([.ref v, .int (nI k), .int 0, .int (nI tx.length)])).length) Slot.unset).toArray = ls at hl ⊢
  have hl : lv_has ls 4 [(0, .ref v), (1, .int (nI k)), (2, .int 0), (3, .int (nI tx.length))] := hl
  have hS0 : va_S NA s.heap s.heap [] := va_S.rf
  have hSA : va_S A s.heap s.heap [] := va_S.rf
  have hlt : tx.length < 65536 := hBV_v.2.2
  refine lv_iload_n hx hb d_LT_indexOf_0 rfl (lv_at hl 1 rfl) ?_
  have hPc : va_P (dC, dI) vwCl [] _ := hP.sub (ws' := []) [] rfl
  have hKc := hK.sub (tys' := []) [] rfl
  refine vp_callSi (W.runS (As := [.int (nI k)]) (rest := []) ⟨hx, hb, hml, hown, htb⟩ (q_LT_canEncode2 l dC dI k hk) (va_cwS 1 htb (g_S (fun _ h => h) m_684 m_682 m_683 m_16) rfl rfl rfl (by decide +kernel) ⟨Nat.le_of_ble_eq_true rfl, Nat.le_of_ble_eq_true rfl⟩) ⟨fun a U g mk q => by obtain ⟨q0, qP, qK⟩ := q; exact ⟨q0, qP, va_K.moved (u := U) (U := U.calling g mk a) (Vm.Alike.refl U.vm) qK⟩, fun U hU hW => ⟨rfl, by rw [hU]; exact hPc, va_K.moved hW.alike hKc⟩⟩ rfl rfl hl.1 rfl (lv_room (Nat.le_of_ble_eq_true rfl)) d_LT_indexOf_1 ⟨Nat.le_of_ble_eq_true rfl, Nat.le_of_ble_eq_true rfl⟩) (fun r1 hw2 => ?_)
  have hw2 : r1 = 1 := hw2
  refine lv_if_ne (tgt := 9) hx hb d_LT_indexOf_4 rfl (fun _ => ?_) (fun h9 => absurd h9 (by rw [hw2]; decide))
  refine lv_iload_n hx hb d_LT_indexOf_9 rfl (lv_at hl 2 rfl) ?_
  refine lv_iconst (v := 0) hx hb d_LT_indexOf_10 (by decide) ?_
  refine va_mmax hx hb (hml.trans hl.1.symm) hown (htb _ m_685) (htb _ m_212) (htb _ m_13) (htb _ m_213) (Nat.le_of_ble_eq_true rfl) (Nat.le_of_ble_eq_true rfl) (Nat.le_of_ble_eq_true rfl) (Nat.le_of_ble_eq_true rfl) d_LT_indexOf_11 ?_
  refine W.eq (congrArg (fun z => F0 m 14 ls (.int z :: [])) (by decide : (if (0 : Int32) < 0 then 0 else (0 : Int32)) = 0)) ?_
  refine lv_istore_n hx hb d_LT_indexOf_14 rfl hl (by decide) rfl (fun ls hl => ?_)
  have hl : lv_has ls 4 [(2, .int 0), (0, .ref v), (1, .int (nI k)), (3, .int (nI tx.length))] := hl
  refine lv_iload_n hx hb d_LT_indexOf_15 rfl (lv_at hl 3 rfl) ?_
  refine lv_aload_n hx hb d_LT_indexOf_16 rfl (lv_at hl 1 rfl) ?_
  refine va_tlen (v := nI (tx).length) hx hb hBV_v.1 hS0 rfl d_LT_indexOf_17 ?_
  refine va_mmin hx hb (hml.trans hl.1.symm) hown (htb _ m_686) (htb _ m_230) (htb _ m_13) (htb _ m_231) (Nat.le_of_ble_eq_true rfl) (Nat.le_of_ble_eq_true rfl) (Nat.le_of_ble_eq_true rfl) (Nat.le_of_ble_eq_true rfl) d_LT_indexOf_18 ?_
  refine W.eq (congrArg (fun z => F0 m 21 ls (.int z :: [])) (mm_min (by omega) (by omega) : (if (nI tx.length) < (nI tx.length) then (nI tx.length) else (nI tx.length)) = nI (Nat.min tx.length tx.length))) ?_
  refine W.eq (congrArg (fun z => F0 m 21 ls (.int z :: [])) (by rw [show Nat.min tx.length tx.length = tx.length from Nat.min_self _] : (nI (Nat.min tx.length tx.length)) = nI tx.length)) ?_
  refine lv_istore_n hx hb d_LT_indexOf_21 rfl hl (by decide) rfl (fun ls hl => ?_)
  have hl : lv_has ls 4 [(3, .int (nI tx.length)), (2, .int 0), (0, .ref v), (1, .int (nI k))] := hl
  refine lv_iload_n hx hb d_LT_indexOf_22 rfl (lv_at hl 1 rfl) ?_
  refine lv_iload_n hx hb d_LT_indexOf_23 rfl (lv_at hl 0 rfl) ?_
  refine lv_icmp_lt (tgt := 29) hx hb d_LT_indexOf_24 rfl (fun h1 => ?_) (fun h1 => ?_)
  · refine lv_aload_n hx hb d_LT_indexOf_29 rfl (lv_at hl 2 rfl) ?_
    refine lv_iload_n hx hb d_LT_indexOf_30 rfl (lv_at hl 3 rfl) ?_
    refine lv_iload_n hx hb d_LT_indexOf_31 rfl (lv_at hl 1 rfl) ?_
    refine lv_iload_n hx hb d_LT_indexOf_32 rfl (lv_at hl 0 rfl) ?_
    have hPc : va_P (dC, dI) vwCl [] _ := hP.sub (ws' := []) [] rfl
    have hKc := hK.sub (tys' := []) [] rfl
    refine vp_callSi (W.runS (As := [.ref v, .int (nI k), .int 0, .int (nI tx.length)]) (rest := []) ⟨hx, hb, hml, hown, htb⟩ (q_LT_indexOfChar l dC dI v tx k em aK aV A hk) (va_cwS 4 htb (g_S (fun _ h => h) m_689 m_687 m_688 m_16) rfl rfl rfl (by decide +kernel) ⟨Nat.le_of_ble_eq_true rfl, Nat.le_of_ble_eq_true rfl⟩) ⟨fun a U g mk q => by obtain ⟨q0, qP, qK, z0, z1⟩ := q; exact ⟨q0, qP, va_K.moved (u := U) (U := U.calling g mk a) (Vm.Alike.refl U.vm) qK, EX.same (U := U) (U' := U.calling g mk a) rfl z0, BV.moved (Vm.Alike.refl U.vm) z1⟩, fun U hU hW => ⟨rfl, by rw [hU]; exact hPc, va_K.moved hW.alike hKc, by rw [hU]; exact EX.warm hW hE, by rw [hU]; exact BV.moved hW.alike hBV_v⟩⟩ rfl rfl hl.1 rfl (lv_room (Nat.le_of_ble_eq_true rfl)) d_LT_indexOf_33 ⟨Nat.le_of_ble_eq_true rfl, Nat.le_of_ble_eq_true rfl⟩) (fun r3 hw4 => ?_)
    have hw4 : (r3 < 0 ∧ k ∉ tx) ∨ (¬ r3 < 0 ∧ k ∈ tx) := hw4
    exact W.iret (v := r3) hx hb hr (fun t ht hW => ⟨r3, rfl, hw4, ht⟩) (fun q h => absurd h List.not_mem_nil) d_LT_indexOf_36
  · have h1 : tx.length ≤ 0 := Nat.not_lt.mp (fun h => h1 ((nI_ltI (a := 0) (by decide) (by omega)).mpr h))
    have hnil : tx = [] := List.length_eq_zero_iff.mp (by omega)
    refine lv_iconst (v := (-1)) hx hb d_LT_indexOf_27 (by decide) ?_
    exact W.iret (v := (-1)) hx hb hr (fun t ht hW => ⟨(-1), rfl, Or.inl ⟨by decide, by rw [hnil]; exact List.not_mem_nil⟩, ht⟩) (fun q h => absurd h List.not_mem_nil) d_LT_indexOf_28
set_option maxHeartbeats 1000000 in
set_option maxRecDepth 100000 in
theorem q_ST_indexOf2 (l : Launch) (dC : Nat → ClassId) (dI : Nat → Nat → Nat) (a : Nat) (v : Nat) (tx : List Nat) (em : Nat) (aK : Nat → Nat) (aV : Nat → Nat) (A : Nat → Prop) (k : Nat) (hk : k < 128) : Met l y_ST_indexOf2 ws_ST_indexOf2 ({ frames := 2, cells := 0, slots := 0, locals := 48 }) (va_Pc [.ref a, .int (nI k), .int 0] (fun U => va_P (dC, dI) vwCl [] U.heap ∧ va_K (dC, dI) vwCl [] U ∧ EX em aK aV A U U.heap ∧ SV U U.heap a v tx)) (vp_Si (fun (r : Int32) => (r < 0 ∧ k ∉ tx) ∨ (¬ r < 0 ∧ k ∈ tx))) 0 0 (fun _ => False) := by
  refine Met.ofW (cc := c_ST_indexOf2) (maxL := 3) (ret := (some .int)) (by decide) rfl ?_
  intro p e s m args below meth c s₁ B hml hv
  obtain ⟨rfl, hP, hK, hE, hSV_a⟩ := hv
  have hx := B.exec
  have hb := B.bytes
  have hr := B.returns
  have hts := atoms_spec (ws := ws_ST_indexOf2) B.pre
  have htb := fun w (h : w ∈ TBL) => hts w (List.mem_cons_of_mem _ h)
  have hown : s.vm.findClass R_ST = some m.cls := findClass_of_methodNamed B.named
  have hlocks := B.notSynchronized
  have hl := lv_entry ([.ref a, .int (nI k), .int 0]) (n := 3) (Nat.le_of_ble_eq_true rfl)
  rw [lg_entry_eq]
  generalize (lg_sl ([.ref a, .int (nI k), .int 0]) ++ List.replicate (3 - (lg_sl ([.ref a, .int (nI k), .int 0])).length) Slot.unset).toArray = ls at hl ⊢
  have hl : lv_has ls 3 [(0, .ref a), (1, .int (nI k)), (2, .int 0)] := hl
  have hS0 : va_S NA s.heap s.heap [] := va_S.rf
  have hSA : va_S A s.heap s.heap [] := va_S.rf
  have hBV_v := hSV_a.2.2.2
  refine lv_aload_n hx hb d_ST_indexOf2_0 rfl (lv_at hl 0 rfl) ?_
  have hPc : va_P (dC, dI) vwCl [] _ := hP.sub (ws' := []) [] rfl
  have hKc := hK.sub (tys' := []) [] rfl
  refine vp_callSi (W.runV (As := []) (rest := []) ⟨hx, hb, hml, hown, htb⟩ (q_ST_isLatin1 l dC dI a v tx em aK aV A ) (cwV 0 htb (g_V (fun _ h => h) m_464 m_461 m_462 m_463 m_4) rfl rfl rfl (by decide +kernel) ⟨Nat.le_of_ble_eq_true rfl, Nat.le_of_ble_eq_true rfl⟩) ⟨fun a U g mk q => by obtain ⟨q0, qP, qK, z0, z1⟩ := q; exact ⟨q0, qP, va_K.moved (u := U) (U := U.calling g mk a) (Vm.Alike.refl U.vm) qK, EX.same (U := U) (U' := U.calling g mk a) rfl z0, SV.moved (Vm.Alike.refl U.vm) z1⟩, hSV_a.recv, fun U hU hW => ⟨rfl, by rw [hU]; exact hPc, va_K.moved hW.alike hKc, by rw [hU]; exact EX.warm hW hE, by rw [hU]; exact SV.moved hW.alike hSV_a⟩⟩ rfl rfl hl.1 rfl (lv_room (Nat.le_of_ble_eq_true rfl)) d_ST_indexOf2_1 ⟨Nat.le_of_ble_eq_true rfl, Nat.le_of_ble_eq_true rfl⟩) (fun r1 hw2 => ?_)
  have hw2 : r1 = 1 := hw2
  refine lv_if_eq (tgt := 23) hx hb d_ST_indexOf2_4 rfl (fun h9 => absurd h9 (by rw [hw2]; decide)) (fun _ => ?_)
  refine lv_aload_n hx hb d_ST_indexOf2_7 rfl (lv_at hl 0 rfl) ?_
  refine vk_getf hx hb hSV_a.2.2.1 hS0 hown (htb _ m_323) (fun _ h9 => h9) d_ST_indexOf2_8 ?_
  refine lv_iload_n hx hb d_ST_indexOf2_11 rfl (lv_at hl 1 rfl) ?_
  refine lv_iload_n hx hb d_ST_indexOf2_12 rfl (lv_at hl 2 rfl) ?_
  refine lv_aload_n hx hb d_ST_indexOf2_13 rfl (lv_at hl 0 rfl) ?_
  have hPc : va_P (dC, dI) vwCl [] _ := hP.sub (ws' := []) [] rfl
  have hKc := hK.sub (tys' := []) [] rfl
  refine vp_callSi (W.runV (As := []) (rest := [.int 0, .int (nI k), .ref v]) ⟨hx, hb, hml, hown, htb⟩ (q_ST_length l dC dI a v tx em aK aV A ) (cwV 0 htb (g_V (fun _ h => h) m_452 m_643 m_450 m_451 m_4) rfl rfl rfl (by decide +kernel) ⟨Nat.le_of_ble_eq_true rfl, Nat.le_of_ble_eq_true rfl⟩) ⟨fun a U g mk q => by obtain ⟨q0, qP, qK, z0, z1⟩ := q; exact ⟨q0, qP, va_K.moved (u := U) (U := U.calling g mk a) (Vm.Alike.refl U.vm) qK, EX.same (U := U) (U' := U.calling g mk a) rfl z0, SV.moved (Vm.Alike.refl U.vm) z1⟩, hSV_a.recv, fun U hU hW => ⟨rfl, by rw [hU]; exact hPc, va_K.moved hW.alike hKc, by rw [hU]; exact EX.warm hW hE, by rw [hU]; exact SV.moved hW.alike hSV_a⟩⟩ rfl rfl hl.1 rfl (lv_room (Nat.le_of_ble_eq_true rfl)) d_ST_indexOf2_14 ⟨Nat.le_of_ble_eq_true rfl, Nat.le_of_ble_eq_true rfl⟩) (fun r3 hw4 => ?_)
  have hw4 : r3 = nI tx.length := hw4
  obtain rfl := hw4
  have hPc : va_P (dC, dI) vwCl [] _ := hP.sub (ws' := []) [] rfl
  have hKc := hK.sub (tys' := []) [] rfl
  refine vp_callSi (W.runS (As := [.ref v, .int (nI k), .int 0, .int (nI tx.length)]) (rest := []) ⟨hx, hb, hml, hown, htb⟩ (q_LT_indexOf l dC dI v tx k em aK aV A hk) (va_cwS 4 htb (g_S (fun _ h => h) m_681 m_679 m_680 m_16) rfl rfl rfl (by decide +kernel) ⟨Nat.le_of_ble_eq_true rfl, Nat.le_of_ble_eq_true rfl⟩) ⟨fun a U g mk q => by obtain ⟨q0, qP, qK, z0, z1⟩ := q; exact ⟨q0, qP, va_K.moved (u := U) (U := U.calling g mk a) (Vm.Alike.refl U.vm) qK, EX.same (U := U) (U' := U.calling g mk a) rfl z0, BV.moved (Vm.Alike.refl U.vm) z1⟩, fun U hU hW => ⟨rfl, by rw [hU]; exact hPc, va_K.moved hW.alike hKc, by rw [hU]; exact EX.warm hW hE, by rw [hU]; exact BV.moved hW.alike hBV_v⟩⟩ rfl rfl hl.1 rfl (lv_room (Nat.le_of_ble_eq_true rfl)) d_ST_indexOf2_17 ⟨Nat.le_of_ble_eq_true rfl, Nat.le_of_ble_eq_true rfl⟩) (fun r5 hw6 => ?_)
  have hw6 : (r5 < 0 ∧ k ∉ tx) ∨ (¬ r5 < 0 ∧ k ∈ tx) := hw6
  refine lv_goto (tgt := 36) hx hb d_ST_indexOf2_20 rfl ?_
  exact W.iret (v := r5) hx hb hr (fun t ht hW => ⟨r5, rfl, hw6, ht⟩) (fun q h => absurd h List.not_mem_nil) d_ST_indexOf2_36
set_option maxHeartbeats 1000000 in
set_option maxRecDepth 100000 in
/-- indexOf(c) -/
theorem q_ST_indexOf (l : Launch) (dC : Nat → ClassId) (dI : Nat → Nat → Nat) (a : Nat) (v : Nat) (tx : List Nat) (em : Nat) (aK : Nat → Nat) (aV : Nat → Nat) (A : Nat → Prop) (k : Nat) (hk : k < 128) : Met l y_ST_indexOf ws_ST_indexOf ({ frames := 3, cells := 0, slots := 0, locals := 70 }) (va_Pc [.ref a, .int (nI k)] (fun U => va_P (dC, dI) vwCl [] U.heap ∧ va_K (dC, dI) vwCl [] U ∧ EX em aK aV A U U.heap ∧ SV U U.heap a v tx)) (vp_Si (fun (r : Int32) => (r < 0 ∧ k ∉ tx) ∨ (¬ r < 0 ∧ k ∈ tx))) 0 0 (fun _ => False) := by
  refine Met.ofW (cc := c_ST_indexOf) (maxL := 2) (ret := (some .int)) (by decide) rfl ?_
  intro p e s m args below meth c s₁ B hml hv
  obtain ⟨rfl, hP, hK, hE, hSV_a⟩ := hv
  have hx := B.exec
  have hb := B.bytes
  have hr := B.returns
  have hts := atoms_spec (ws := ws_ST_indexOf) B.pre
  have htb := fun w (h : w ∈ TBL) => hts w (List.mem_cons_of_mem _ h)
  have hown : s.vm.findClass R_ST = some m.cls := findClass_of_methodNamed B.named
  have hlocks := B.notSynchronized
  have hl := lv_entry ([.ref a, .int (nI k)]) (n := 2) (Nat.le_of_ble_eq_true rfl)
  rw [lg_entry_eq]
  generalize (lg_sl ([.ref a, .int (nI k)]) ++ List.replicate (2 - (lg_sl ([.ref a, .int (nI k)])).length) Slot.unset).toArray = ls at hl ⊢
  have hl : lv_has ls 2 [(0, .ref a), (1, .int (nI k))] := hl
  have hS0 : va_S NA s.heap s.heap [] := va_S.rf
  have hSA : va_S A s.heap s.heap [] := va_S.rf
  refine lv_aload_n hx hb d_ST_indexOf_0 rfl (lv_at hl 0 rfl) ?_
  refine lv_iload_n hx hb d_ST_indexOf_1 rfl (lv_at hl 1 rfl) ?_
  refine lv_iconst (v := 0) hx hb d_ST_indexOf_2 (by decide) ?_
  have hPc : va_P (dC, dI) vwCl [] _ := hP.sub (ws' := []) [] rfl
  have hKc := hK.sub (tys' := []) [] rfl
  refine vp_callSi (W.runV (As := [.int (nI k), .int 0]) (rest := []) ⟨hx, hb, hml, hown, htb⟩ (q_ST_indexOf2 l dC dI a v tx em aK aV A k hk) (cwV 2 htb (g_V (fun _ h => h) m_678 m_675 m_676 m_677 m_4) rfl rfl rfl (by decide +kernel) ⟨Nat.le_of_ble_eq_true rfl, Nat.le_of_ble_eq_true rfl⟩) ⟨fun a U g mk q => by obtain ⟨q0, qP, qK, z0, z1⟩ := q; exact ⟨q0, qP, va_K.moved (u := U) (U := U.calling g mk a) (Vm.Alike.refl U.vm) qK, EX.same (U := U) (U' := U.calling g mk a) rfl z0, SV.moved (Vm.Alike.refl U.vm) z1⟩, hSV_a.recv, fun U hU hW => ⟨rfl, by rw [hU]; exact hPc, va_K.moved hW.alike hKc, by rw [hU]; exact EX.warm hW hE, by rw [hU]; exact SV.moved hW.alike hSV_a⟩⟩ rfl rfl hl.1 rfl (lv_room (Nat.le_of_ble_eq_true rfl)) d_ST_indexOf_3 ⟨Nat.le_of_ble_eq_true rfl, Nat.le_of_ble_eq_true rfl⟩) (fun r1 hw2 => ?_)
  have hw2 : (r1 < 0 ∧ k ∉ tx) ∨ (¬ r1 < 0 ∧ k ∈ tx) := hw2
  exact W.iret (v := r1) hx hb hr (fun t ht hW => ⟨r1, rfl, hw2, ht⟩) (fun q h => absurd h List.not_mem_nil) d_ST_indexOf_6
set_option maxHeartbeats 1000000 in
set_option maxRecDepth 100000 in
theorem q_PC_checkFromTo_N (l : Launch) (dC : Nat → ClassId) (dI : Nat → Nat → Nat) (i : Nat) (j : Nat) (n : Nat) (hi : i ≤ j) (hj : j ≤ n) (hn : n < 2 ^ 31) : Met l y_PC_checkFromToIndex ws_PC_checkFromToIndex ({ frames := 0, cells := 0, slots := 0, locals := 0 }) (va_Pc [.int (nI i), .int (nI j), .int (nI n), .null] (fun U => va_P (dC, dI) vwCl [] U.heap ∧ va_K (dC, dI) vwCl [] U)) (vp_Si (fun (r : Int32) => r = nI i)) 0 0 (fun _ => False) := by
  refine Met.ofW (cc := c_PC_checkFromToIndex) (maxL := 4) (ret := (some .int)) (by decide) rfl ?_
  intro p e s m args below meth c s₁ B hml hv
  obtain ⟨rfl, hP, hK⟩ := hv
  have hx := B.exec
  have hb := B.bytes
  have hr := B.returns
  have hts := atoms_spec (ws := ws_PC_checkFromToIndex) B.pre
  have htb := fun w (h : w ∈ TBL) => hts w (List.mem_cons_of_mem _ h)
  have hown : s.vm.findClass R_PC = some m.cls := findClass_of_methodNamed B.named
  have hlocks := B.notSynchronized
  have hl := lv_entry ([.int (nI i), .int (nI j), .int (nI n), .null]) (n := 4) (Nat.le_of_ble_eq_true rfl)
  rw [lg_entry_eq]
  generalize (lg_sl ([.int (nI i), .int (nI j), .int (nI n), .null]) ++ List.replicate (4 - (lg_sl ([.int (nI i), .int (nI j), .int (nI n), .null])).length) Slot.unset).toArray = ls at hl ⊢
  have hl : lv_has ls 4 [(0, .int (nI i)), (1, .int (nI j)), (2, .int (nI n)), (3, .null)] := hl
  refine lv_iload_n hx hb d_PC_checkFromToIndex_0 rfl (lv_at hl 0 rfl) ?_
  refine lv_if_lt (tgt := 14) hx hb d_PC_checkFromToIndex_1 rfl (fun h9 => absurd h9 (nI_pos (by omega))) (fun _ => ?_)
  refine lv_iload_n hx hb d_PC_checkFromToIndex_4 rfl (lv_at hl 0 rfl) ?_
  refine lv_iload_n hx hb d_PC_checkFromToIndex_5 rfl (lv_at hl 1 rfl) ?_
  refine lv_icmp_gt (tgt := 14) hx hb d_PC_checkFromToIndex_6 rfl (fun h9 => absurd h9 (fun h => by have := (nI_ltI (by omega) (by omega)).mp h; omega)) (fun _ => ?_)
  refine lv_iload_n hx hb d_PC_checkFromToIndex_9 rfl (lv_at hl 1 rfl) ?_
  refine lv_iload_n hx hb d_PC_checkFromToIndex_10 rfl (lv_at hl 2 rfl) ?_
  refine lv_icmp_le (tgt := 22) hx hb d_PC_checkFromToIndex_11 rfl (fun _ => ?_) (fun h9 => absurd (nI_le hj hn) h9)
  refine lv_iload_n hx hb d_PC_checkFromToIndex_22 rfl (lv_at hl 0 rfl) ?_
  exact W.iret (v := (nI i)) hx hb hr (fun t ht hW => ⟨(nI i), rfl, rfl, ht⟩) (fun q h => absurd h List.not_mem_nil) d_PC_checkFromToIndex_23
set_option maxHeartbeats 1000000 in
set_option maxRecDepth 100000 in
theorem q_PC_checkFromTo_R (l : Launch) (dC : Nat → ClassId) (dI : Nat → Nat → Nat) (i : Nat) (j : Nat) (n : Nat) (fm : Nat) (hi : i ≤ j) (hj : j ≤ n) (hn : n < 2 ^ 31) : Met l y_PC_checkFromToIndex ws_PC_checkFromToIndex ({ frames := 0, cells := 0, slots := 0, locals := 0 }) (va_Pc [.int (nI i), .int (nI j), .int (nI n), .ref fm] (fun U => va_P (dC, dI) vwCl [] U.heap ∧ va_K (dC, dI) vwCl [] U)) (vp_Si (fun (r : Int32) => r = nI i)) 0 0 (fun _ => False) := by
  refine Met.ofW (cc := c_PC_checkFromToIndex) (maxL := 4) (ret := (some .int)) (by decide) rfl ?_
  intro p e s m args below meth c s₁ B hml hv
  obtain ⟨rfl, hP, hK⟩ := hv
  have hx := B.exec
  have hb := B.bytes
  have hr := B.returns
  have hts := atoms_spec (ws := ws_PC_checkFromToIndex) B.pre
  have htb := fun w (h : w ∈ TBL) => hts w (List.mem_cons_of_mem _ h)
  have hown : s.vm.findClass R_PC = some m.cls := findClass_of_methodNamed B.named
  have hlocks := B.notSynchronized
  have hl := lv_entry ([.int (nI i), .int (nI j), .int (nI n), .ref fm]) (n := 4) (Nat.le_of_ble_eq_true rfl)
  rw [lg_entry_eq]
  generalize (lg_sl ([.int (nI i), .int (nI j), .int (nI n), .ref fm]) ++ List.replicate (4 - (lg_sl ([.int (nI i), .int (nI j), .int (nI n), .ref fm])).length) Slot.unset).toArray = ls at hl ⊢
  have hl : lv_has ls 4 [(0, .int (nI i)), (1, .int (nI j)), (2, .int (nI n)), (3, .ref fm)] := hl
  refine lv_iload_n hx hb d_PC_checkFromToIndex_0 rfl (lv_at hl 0 rfl) ?_
  refine lv_if_lt (tgt := 14) hx hb d_PC_checkFromToIndex_1 rfl (fun h9 => absurd h9 (nI_pos (by omega))) (fun _ => ?_)
  refine lv_iload_n hx hb d_PC_checkFromToIndex_4 rfl (lv_at hl 0 rfl) ?_
  refine lv_iload_n hx hb d_PC_checkFromToIndex_5 rfl (lv_at hl 1 rfl) ?_
  refine lv_icmp_gt (tgt := 14) hx hb d_PC_checkFromToIndex_6 rfl (fun h9 => absurd h9 (fun h => by have := (nI_ltI (by omega) (by omega)).mp h; omega)) (fun _ => ?_)
  refine lv_iload_n hx hb d_PC_checkFromToIndex_9 rfl (lv_at hl 1 rfl) ?_
  refine lv_iload_n hx hb d_PC_checkFromToIndex_10 rfl (lv_at hl 2 rfl) ?_
  refine lv_icmp_le (tgt := 22) hx hb d_PC_checkFromToIndex_11 rfl (fun _ => ?_) (fun h9 => absurd (nI_le hj hn) h9)
  refine lv_iload_n hx hb d_PC_checkFromToIndex_22 rfl (lv_at hl 0 rfl) ?_
  exact W.iret (v := (nI i)) hx hb hr (fun t ht hW => ⟨(nI i), rfl, rfl, ht⟩) (fun q h => absurd h List.not_mem_nil) d_PC_checkFromToIndex_23
set_option maxHeartbeats 1000000 in
set_option maxRecDepth 100000 in
theorem q_ST_checkBoundsBeginEnd (l : Launch) (dC : Nat → ClassId) (dI : Nat → Nat → Nat) (i : Nat) (j : Nat) (n : Nat) (em : Nat) (aK : Nat → Nat) (aV : Nat → Nat) (A : Nat → Prop) (hi : i ≤ j) (hj : j ≤ n) (hn : n < 2 ^ 31) : Met l y_ST_checkBoundsBeginEnd ws_ST_checkBoundsBeginEnd ({ frames := 1, cells := 0, slots := 0, locals := 23 }) (va_Pc [.int (nI i), .int (nI j), .int (nI n)] (fun U => va_P (dC, dI) vwCl [] U.heap ∧ va_K (dC, dI) vwCl [] U ∧ EX em aK aV A U U.heap)) (va_Sv (fun _ => True)) 0 0 (fun _ => False) := by
  refine Met.ofW (cc := c_ST_checkBoundsBeginEnd) (maxL := 3) (ret := none) (by decide) rfl ?_
  intro p e s m args below meth c s₁ B hml hv
  obtain ⟨rfl, hP, hK, hE⟩ := hv
  have hx := B.exec
  have hb := B.bytes
  have hr := B.returns
  have hts := atoms_spec (ws := ws_ST_checkBoundsBeginEnd) B.pre
  have htb := fun w (h : w ∈ TBL) => hts w (List.mem_cons_of_mem _ h)
  have hown : s.vm.findClass R_ST = some m.cls := findClass_of_methodNamed B.named
  have hlocks := B.notSynchronized
  have hl := lv_entry ([.int (nI i), .int (nI j), .int (nI n)]) (n := 3) (Nat.le_of_ble_eq_true rfl)
  rw [lg_entry_eq]
  generalize (lg_sl ([.int (nI i), .int (nI j), .int (nI n)]) ++ List.replicate (3 - (lg_sl ([.int (nI i), .int (nI j), .int (nI n)])).length) Slot.unset).toArray = ls at hl ⊢
  have hl : lv_has ls 3 [(0, .int (nI i)), (1, .int (nI j)), (2, .int (nI n))] := hl
  have hS0 : va_S NA s.heap s.heap [] := va_S.rf
  have hSA : va_S A s.heap s.heap [] := va_S.rf
  refine lv_iload_n hx hb d_ST_checkBoundsBeginEnd_0 rfl (lv_at hl 0 rfl) ?_
  refine lv_iload_n hx hb d_ST_checkBoundsBeginEnd_1 rfl (lv_at hl 1 rfl) ?_
  refine lv_iload_n hx hb d_ST_checkBoundsBeginEnd_2 rfl (lv_at hl 2 rfl) ?_
  rcases hE.form with hz | ⟨fm, hz⟩
  · refine va_gets hx hb hz hSA hown (htb _ m_305) (fun _ h9 => h9) d_ST_checkBoundsBeginEnd_3 ?_
    have hPc : va_P (dC, dI) vwCl [] _ := hP.sub (ws' := []) [] rfl
    have hKc := hK.sub (tys' := []) [] rfl
    refine vp_callSi (W.runS (As := [.int (nI i), .int (nI j), .int (nI n), .null]) (rest := []) ⟨hx, hb, hml, hown, htb⟩ (q_PC_checkFromTo_N l dC dI i j n hi hj hn) (va_cwS 4 htb (g_S (fun _ h => h) m_649 m_647 m_648 m_17) rfl rfl rfl (by decide +kernel) ⟨Nat.le_of_ble_eq_true rfl, Nat.le_of_ble_eq_true rfl⟩) ⟨fun a U g mk q => by obtain ⟨q0, qP, qK⟩ := q; exact ⟨q0, qP, va_K.moved (u := U) (U := U.calling g mk a) (Vm.Alike.refl U.vm) qK⟩, fun U hU hW => ⟨rfl, by rw [hU]; exact hPc, va_K.moved hW.alike hKc⟩⟩ rfl rfl hl.1 rfl (lv_room (Nat.le_of_ble_eq_true rfl)) d_ST_checkBoundsBeginEnd_6 ⟨Nat.le_of_ble_eq_true rfl, Nat.le_of_ble_eq_true rfl⟩) (fun r1 hw2 => ?_)
    have hw2 : r1 = nI i := hw2
    refine lv_pop hx hb d_ST_checkBoundsBeginEnd_9 rfl ?_
    exact W.vret hx hb hr (fun t ht hW => ⟨rfl, trivial, ht⟩) (fun q h => absurd h List.not_mem_nil) d_ST_checkBoundsBeginEnd_10
  · refine va_gets hx hb hz hSA hown (htb _ m_305) (fun _ h9 => h9) d_ST_checkBoundsBeginEnd_3 ?_
    have hPc : va_P (dC, dI) vwCl [] _ := hP.sub (ws' := []) [] rfl
    have hKc := hK.sub (tys' := []) [] rfl
    refine vp_callSi (W.runS (As := [.int (nI i), .int (nI j), .int (nI n), .ref fm]) (rest := []) ⟨hx, hb, hml, hown, htb⟩ (q_PC_checkFromTo_R l dC dI i j n fm hi hj hn) (va_cwS 4 htb (g_S (fun _ h => h) m_649 m_647 m_648 m_17) rfl rfl rfl (by decide +kernel) ⟨Nat.le_of_ble_eq_true rfl, Nat.le_of_ble_eq_true rfl⟩) ⟨fun a U g mk q => by obtain ⟨q0, qP, qK⟩ := q; exact ⟨q0, qP, va_K.moved (u := U) (U := U.calling g mk a) (Vm.Alike.refl U.vm) qK⟩, fun U hU hW => ⟨rfl, by rw [hU]; exact hPc, va_K.moved hW.alike hKc⟩⟩ rfl rfl hl.1 rfl (lv_room (Nat.le_of_ble_eq_true rfl)) d_ST_checkBoundsBeginEnd_6 ⟨Nat.le_of_ble_eq_true rfl, Nat.le_of_ble_eq_true rfl⟩) (fun r1 hw2 => ?_)
    have hw2 : r1 = nI i := hw2
    refine lv_pop hx hb d_ST_checkBoundsBeginEnd_9 rfl ?_
    exact W.vret hx hb hr (fun t ht hW => ⟨rfl, trivial, ht⟩) (fun q h => absurd h List.not_mem_nil) d_ST_checkBoundsBeginEnd_10
set_option maxHeartbeats 1000000 in
set_option maxRecDepth 100000 in
/-- n bytes from i0 on -/
theorem k_AR_copyOfRangeByte2 (l : Launch) (dC : Nat → ClassId) (dI : Nat → Nat → Nat) (sz : Nat) (bv : Nat) (cB : ClassId) (f : Nat → Int32) (cap : Nat) (i0 : Nat) (n : Nat) (hf : ∀ j, j < cap → fits .byte (.int (f j)) = true) (hn : n ≤ 160) (hc : i0 + n ≤ cap) (hc2 : cap ≤ 286) : Met l y_AR_copyOfRangeByte ws_AR_copyOfRangeByte ({ frames := 1, cells := 1, slots := 160, locals := 40 }) (va_Pc [.ref bv, .int (nI i0), .int (nI (i0 + n))] (fun U => U.heap.size = sz ∧ va_P (dC, dI) vwCl [(bv, .inl (cB, cap, .inl f))] U.heap ∧ va_K (dC, dI) vwCl [(cB, .byte)] U ∧ va_D (fun _ => True) [(bv, .inl (cB, cap, .inl f))])) (va_Qr (fun (u : Unit) => True) (fun u ra t => va_P (dC, dI) vwCl [(bv, .inl (cB, cap, .inl f)), (ra, .inl (cB, n, .inl (va_cpy f (fun _ => 0) i0 0 n)))] t.heap ∧ va_K (dC, dI) vwCl [(cB, .byte)] t ∧ va_D (va_A [(bv, .inl (cB, cap, .inl f))] sz) [(bv, .inl (cB, cap, .inl f)), (ra, .inl (cB, n, .inl (va_cpy f (fun _ => 0) i0 0 n)))]) (va_A [(bv, .inl (cB, cap, .inl f))] sz)) 1 160 (va_A [(bv, .inl (cB, cap, .inl f))] sz) := by
  refine Met.ofW (cc := c_AR_copyOfRangeByte) (maxL := 5) (ret := (some (.array .byte))) (by decide) rfl ?_
  intro p e s m args below meth c s₁ B hml hv
  obtain ⟨rfl, hsz, hP, hK, hD0⟩ := hv
  have hx := B.exec
  have hb := B.bytes
  have hr := B.returns
  have hts := atoms_spec (ws := ws_AR_copyOfRangeByte) B.pre
  have htb := fun w (h : w ∈ TBL) => hts w (List.mem_cons_of_mem _ h)
  have hown : s.vm.findClass R_AR = some m.cls := findClass_of_methodNamed B.named
  have hlocks := B.notSynchronized
  subst hsz
  have hD := hD0.self (sz := s.heap.size)
  generalize hAe : va_A [(bv, .inl (cB, cap, .inl f))] s.heap.size = A at hD ⊢
  have hA : ∀ q : Nat, s.heap.size ≤ q → A q := fun q h => by rw [← hAe]; exact Or.inr h
  have hS : va_S A s.heap s.heap [] := va_S.rf
  have hP : va_P (dC, dI) vwCl [(bv, .inl (cB, cap, .inl f))] s.heap := hP
  have hl := lv_entry ([.ref bv, .int (nI i0), .int (nI (i0 + n))]) (n := 5) (Nat.le_of_ble_eq_true rfl)
  rw [lg_entry_eq]
  generalize (lg_sl ([.ref bv, .int (nI i0), .int (nI (i0 + n))]) ++ List.replicate (5 - (lg_sl ([.ref bv, .int (nI i0), .int (nI (i0 + n))])).length) Slot.unset).toArray = ls at hl ⊢
  have hl : lv_has ls 5 [(0, .ref bv), (1, .int (nI i0)), (2, .int (nI (i0 + n)))] := hl
  refine lv_iload_n hx hb d_AR_copyOfRangeByte_0 rfl (lv_at hl 1 rfl) ?_
  refine lv_iload_n hx hb d_AR_copyOfRangeByte_1 rfl (lv_at hl 2 rfl) ?_
  have hPc : va_P (dC, dI) vwCl [] _ := hP.sub (ws' := []) [] rfl
  have hKc := hK.sub (tys' := []) [] rfl
  refine va_csv (W.runS (As := [.int (nI i0), .int (nI (i0 + n))]) (rest := []) ⟨hx, hb, hml, hown, htb⟩ (q_AR_checkLength l dC dI i0 (i0 + n) (by omega) (by omega)) (va_cwS 2 htb (g_S (fun _ h => h) m_288 m_286 m_287 m_14) rfl rfl rfl (by decide +kernel) ⟨Nat.le_of_ble_eq_true rfl, Nat.le_of_ble_eq_true rfl⟩) ⟨fun a U g mk q => by obtain ⟨q0, qP, qK⟩ := q; exact ⟨q0, qP, va_K.moved (u := U) (U := U.calling g mk a) (Vm.Alike.refl U.vm) qK⟩, fun U hU hW => ⟨rfl, by rw [hU]; exact hPc, va_K.moved hW.alike hKc⟩⟩ rfl rfl hl.1 rfl (lv_room (Nat.le_of_ble_eq_true rfl)) d_AR_copyOfRangeByte_2 ⟨Nat.le_of_ble_eq_true rfl, Nat.le_of_ble_eq_true rfl⟩) (fun hw2 => ?_)
  have hw2 : True := hw2
  refine lv_iload_n hx hb d_AR_copyOfRangeByte_5 rfl (lv_at hl 2 rfl) ?_
  refine lv_iload_n hx hb d_AR_copyOfRangeByte_6 rfl (lv_at hl 1 rfl) ?_
  refine lv_isub hx hb d_AR_copyOfRangeByte_7 ?_
  refine W.eq (congrArg (fun z => F0 m 8 ls (.int z :: [])) (by rw [pk_sub (a := i0 + n) (b := i0) (by omega), Nat.add_sub_cancel_left] : ((nI (i0 + n)) - (nI i0)) = nI n)) ?_
  refine lv_istore_n hx hb d_AR_copyOfRangeByte_8 rfl hl (by decide) rfl (fun ls hl => ?_)
  have hl : lv_has ls 5 [(3, .int (nI n)), (0, .ref bv), (1, .int (nI i0)), (2, .int (nI (i0 + n)))] := hl
  refine lv_iload_n hx hb d_AR_copyOfRangeByte_9 rfl (lv_at hl 0 rfl) ?_
  refine va_newa (atype := .byte) (ty := .byte) (N' := n) (a0 := (n, .inl (fun _ => 0))) hx hb (htb _ m_70) rfl hK hP hD hS hA (fun _ => rfl) (nI_pos (by omega)) (nI_clamp (by omega)) (by show n * 1 ≤ _; omega) (Nat.le_of_ble_eq_true rfl) (Nat.le_trans (Nat.add_le_add_left hn _) (Nat.le_of_ble_eq_true rfl)) d_AR_copyOfRangeByte_10 (fun bw cN H hK hP hD hS => ?_)
  have hK : va_K (dC, dI) vwCl [(cB, .byte), (cN, .byte)] s := hK
  have hP : va_P (dC, dI) vwCl [(bv, .inl (cB, cap, .inl f)), (bw, .inl (cN, n, .inl (fun _ => 0)))] H := hP
  have hD : va_D A [(bv, .inl (cB, cap, .inl f)), (bw, .inl (cN, n, .inl (fun _ => 0)))] := hD
  refine W.widen (k := 1) (n := 160) (Nat.le_of_ble_eq_true rfl) (Nat.add_le_add_left hn 0) ?_
  obtain rfl : cB = cN := zz_ty hK 0 1 rfl rfl
  have hK := hK.sub (tys' := [(cB, .byte)]) [0] rfl
  have hP : va_P (dC, dI) vwCl [(bv, .inl (cB, cap, .inl f)), (bw, .inl (cB, n, .inl (fun _ => 0)))] H := hP
  have hD : va_D A [(bv, .inl (cB, cap, .inl f)), (bw, .inl (cB, n, .inl (fun _ => 0)))] := hD
  refine lv_astore hx hb d_AR_copyOfRangeByte_12 hl (by decide) rfl (fun ls hl => ?_)
  have hl : lv_has ls 5 [(4, .ref bw), (3, .int (nI n)), (0, .ref bv), (1, .int (nI i0)), (2, .int (nI (i0 + n)))] := hl
  refine lv_aload_n hx hb d_AR_copyOfRangeByte_14 rfl (lv_at hl 2 rfl) ?_
  refine lv_iload_n hx hb d_AR_copyOfRangeByte_15 rfl (lv_at hl 3 rfl) ?_
  refine lv_aload hx hb d_AR_copyOfRangeByte_16 (lv_at hl 0 rfl) ?_
  refine lv_iconst (v := 0) hx hb d_AR_copyOfRangeByte_18 (by decide) ?_
  refine lv_aload_n hx hb d_AR_copyOfRangeByte_19 rfl (lv_at hl 2 rfl) ?_
  refine va_alen (v := (nI cap)) hx hb hK hP 0 0 rfl rfl rfl d_AR_copyOfRangeByte_20 ?_
  refine lv_iload_n hx hb d_AR_copyOfRangeByte_21 rfl (lv_at hl 3 rfl) ?_
  refine lv_isub hx hb d_AR_copyOfRangeByte_22 ?_
  refine W.eq (congrArg (fun z => F0 m 23 ls (.int z :: [.int 0, .ref bw, .int (nI i0), .ref bv])) (pk_sub (a := cap) (b := i0) (by omega) : ((nI cap) - (nI i0)) = nI (cap - i0))) ?_
  refine lv_iload_n hx hb d_AR_copyOfRangeByte_23 rfl (lv_at hl 1 rfl) ?_
  refine va_mmin hx hb (hml.trans hl.1.symm) hown (htb _ m_229) (htb _ m_230) (htb _ m_13) (htb _ m_231) (Nat.le_of_ble_eq_true rfl) (Nat.le_of_ble_eq_true rfl) (Nat.le_of_ble_eq_true rfl) (Nat.le_of_ble_eq_true rfl) d_AR_copyOfRangeByte_24 ?_
  refine W.eq (congrArg (fun z => F0 m 27 ls (.int z :: [.int 0, .ref bw, .int (nI i0), .ref bv])) (mm_min (by omega) (by omega) : (if (nI n) < (nI (cap - i0)) then (nI n) else (nI (cap - i0))) = nI (Nat.min (cap - i0) n))) ?_
  refine W.eq (congrArg (fun z => F0 m 27 ls (.int z :: [.int 0, .ref bw, .int (nI i0), .ref bv])) (by rw [show Nat.min (cap - i0) n = n from Nat.min_eq_right (by omega)] : (nI (Nat.min (cap - i0) n)) = nI n)) ?_
  refine va_copyi (ty := .byte) hx hb (hml.trans hl.1.symm) hown (htb _ m_232) (htb _ m_234) (htb _ m_233) (htb _ m_15) hK hP hD hS 0 1 0 0 rfl rfl rfl rfl rfl (nI_pos (by omega)) (by decide) (nI_pos (by omega)) (by rw [nI_clamp (by omega), nI_clamp (by omega)]; exact hc) (by rw [nI_clamp (by omega)]; exact (by show 0 + n ≤ n; omega)) (fun i hi => hf _ (by rw [nI_clamp (by omega)] at hi ⊢; omega)) (Nat.le_of_ble_eq_true rfl) (by decide) d_AR_copyOfRangeByte_27 (fun H locs hP hD hS => ?_)
  rw [(by rw [nI_clamp (by omega), nI_clamp (by omega)]; rfl : va_cpy f (fun _ => 0) (nI i0).toNatClampNeg (0 : Int32).toNatClampNeg (nI n).toNatClampNeg = (va_cpy f (fun _ => 0) i0 0 n))] at hP hD
  have hP : va_P (dC, dI) vwCl [(bv, .inl (cB, cap, .inl f)), (bw, .inl (cB, n, .inl (va_cpy f (fun _ => 0) i0 0 n)))] H := hP
  have hD : va_D A [(bv, .inl (cB, cap, .inl f)), (bw, .inl (cB, n, .inl (va_cpy f (fun _ => 0) i0 0 n)))] := hD
  refine lv_aload hx hb d_AR_copyOfRangeByte_30 (lv_at hl 0 rfl) ?_
  have hP9 := hP.sub (ws' := [(bv, .inl (cB, cap, .inl f)), (bw, .inl (cB, n, .inl (va_cpy f (fun _ => 0) i0 0 n)))]) [0, 1] rfl
  have hD9 := hD.sub (ws' := [(bv, .inl (cB, cap, .inl f)), (bw, .inl (cB, n, .inl (va_cpy f (fun _ => 0) i0 0 n)))]) [0, 1] (by decide) rfl
  have hK9 := hK.sub (tys' := [(cB, .byte)]) [0] rfl
  refine W.widen (k := 1) (n := 160) (Nat.le_of_ble_eq_true rfl) (Nat.le_of_ble_eq_true rfl) ?_
  exact W.aret (v := .ref bw) hx hb hr (Or.inr ⟨_, rfl⟩) (Or.inr ⟨_, rfl⟩) (fun t ht hW => ⟨⟨(), bw, rfl, trivial, ⟨by rw [ht]; exact hP9, va_K.moved hW.alike hK9, hD9⟩⟩, hS.F ht⟩) hS.2.2 d_AR_copyOfRangeByte_32
set_option maxHeartbeats 1000000 in
set_option maxRecDepth 100000 in
/-- Arrays.copyOfRange of n bytes from i0 on -/
theorem k_AR_copyOfRange2 (l : Launch) (dC : Nat → ClassId) (dI : Nat → Nat → Nat) (sz : Nat) (bv : Nat) (cB : ClassId) (f : Nat → Int32) (cap : Nat) (i0 : Nat) (n : Nat) (hf : ∀ j, j < cap → fits .byte (.int (f j)) = true) (hn : n ≤ 160) (hc : i0 + n ≤ cap) (hc2 : cap ≤ 286) (hne : ¬ (i0 = 0 ∧ i0 + n = cap)) : Met l y_AR_copyOfRange ws_AR_copyOfRange ({ frames := 2, cells := 1, slots := 160, locals := 64 }) (va_Pc [.ref bv, .int (nI i0), .int (nI (i0 + n))] (fun U => U.heap.size = sz ∧ va_P (dC, dI) vwCl [(bv, .inl (cB, cap, .inl f))] U.heap ∧ va_K (dC, dI) vwCl [(cB, .byte)] U ∧ va_D (fun _ => True) [(bv, .inl (cB, cap, .inl f))])) (va_Qr (fun (u : Unit) => True) (fun u ra t => va_P (dC, dI) vwCl [(bv, .inl (cB, cap, .inl f)), (ra, .inl (cB, n, .inl (va_cpy f (fun _ => 0) i0 0 n)))] t.heap ∧ va_K (dC, dI) vwCl [(cB, .byte)] t ∧ va_D (va_A [(bv, .inl (cB, cap, .inl f))] sz) [(bv, .inl (cB, cap, .inl f)), (ra, .inl (cB, n, .inl (va_cpy f (fun _ => 0) i0 0 n)))]) (va_A [(bv, .inl (cB, cap, .inl f))] sz)) 1 160 (va_A [(bv, .inl (cB, cap, .inl f))] sz) := by
  refine Met.ofW (cc := c_AR_copyOfRange) (maxL := 3) (ret := (some (.array .byte))) (by decide) rfl ?_
  intro p e s m args below meth c s₁ B hml hv
  obtain ⟨rfl, hsz, hP, hK, hD0⟩ := hv
  have hx := B.exec
  have hb := B.bytes
  have hr := B.returns
  have hts := atoms_spec (ws := ws_AR_copyOfRange) B.pre
  have htb := fun w (h : w ∈ TBL) => hts w (List.mem_cons_of_mem _ h)
  have hown : s.vm.findClass R_AR = some m.cls := findClass_of_methodNamed B.named
  have hlocks := B.notSynchronized
  subst hsz
  have hD := hD0.self (sz := s.heap.size)
  generalize hAe : va_A [(bv, .inl (cB, cap, .inl f))] s.heap.size = A at hD ⊢
  have hA : ∀ q : Nat, s.heap.size ≤ q → A q := fun q h => by rw [← hAe]; exact Or.inr h
  have hS : va_S A s.heap s.heap [] := va_S.rf
  have hP : va_P (dC, dI) vwCl [(bv, .inl (cB, cap, .inl f))] s.heap := hP
  have hl := lv_entry ([.ref bv, .int (nI i0), .int (nI (i0 + n))]) (n := 3) (Nat.le_of_ble_eq_true rfl)
  rw [lg_entry_eq]
  generalize (lg_sl ([.ref bv, .int (nI i0), .int (nI (i0 + n))]) ++ List.replicate (3 - (lg_sl ([.ref bv, .int (nI i0), .int (nI (i0 + n))])).length) Slot.unset).toArray = ls at hl ⊢
  have hl : lv_has ls 3 [(0, .ref bv), (1, .int (nI i0)), (2, .int (nI (i0 + n)))] := hl
  refine lv_iload_n hx hb d_AR_copyOfRange_0 rfl (lv_at hl 1 rfl) ?_
  refine lv_if_ne (tgt := 10) hx hb d_AR_copyOfRange_1 rfl (fun h1 => ?_) (fun h1 => ?_)
  · refine lv_aload_n hx hb d_AR_copyOfRange_10 rfl (lv_at hl 0 rfl) ?_
    refine lv_iload_n hx hb d_AR_copyOfRange_11 rfl (lv_at hl 1 rfl) ?_
    refine lv_iload_n hx hb d_AR_copyOfRange_12 rfl (lv_at hl 2 rfl) ?_
    have hPc := hP.sub (ws' := [(bv, .inl (cB, cap, .inl f))]) [0] rfl
    have hDc := hD.sub (ws' := [(bv, .inl (cB, cap, .inl f))]) [0] (by decide) rfl
    have hFc := va_free (wc := [(bv, .inl (cB, cap, .inl f))]) hD hS hA [0] rfl
    have hKc := hK.sub (tys' := [(cB, .byte)]) [0] rfl
    refine va_callr (va_runS (As := [.ref bv, .int (nI i0), .int (nI (i0 + n))]) (rest := []) ⟨hx, hb, hml, hown, htb⟩ (k_AR_copyOfRangeByte2 l dC dI _ bv cB f cap i0 n hf hn hc hc2) (va_cwS 3 htb (g_S (fun _ h => h) m_285 m_283 m_284 m_14) rfl rfl rfl (by decide +kernel) ⟨Nat.le_of_ble_eq_true rfl, Nat.le_of_ble_eq_true rfl⟩) ⟨fun a U g mk q => by obtain ⟨q0, q1, qP, qK, qD⟩ := q; exact ⟨q0, q1, qP, va_K.moved (u := U) (U := U.calling g mk a) (Vm.Alike.refl U.vm) qK, qD⟩, fun U hU hW => ⟨rfl, by rw [hU], by rw [hU]; exact hPc, va_K.moved hW.alike hKc, hDc.weaken (fun _ _ _ _ => trivial)⟩⟩ rfl rfl hl.1 rfl (lv_room (Nat.le_of_ble_eq_true rfl)) d_AR_copyOfRange_13 ⟨Nat.le_of_ble_eq_true rfl, Nat.le_of_ble_eq_true rfl⟩) hS (fun q _ h => hFc q h) hFc (fun u1 ra4 t H1 locs ht hvm hw3 hB hz1 hk1 hS => ?_)
    obtain ⟨hP1, hK1, hD1⟩ := hB
    rw [ht] at hP1
    have hK1 := va_K.moved hvm.symm hK1
    have hw3 : True := hw3
    obtain ⟨hP, hD⟩ := va_join (wr := []) (w1 := [(bv, .inl (cB, cap, .inl f)), (ra4, .inl (cB, n, .inl (va_cpy f (fun _ => 0) i0 0 n)))]) hP hD [0] [] rfl rfl (by decide) (by decide) hk1 hFc hP1 hD1
    have hK := (hK.sub (tys' := []) [] rfl).app hK1
    generalize H1 = H at hP hS ⊢
    have hP : va_P (dC, dI) vwCl [(bv, .inl (cB, cap, .inl f)), (ra4, .inl (cB, n, .inl (va_cpy f (fun _ => 0) i0 0 n)))] H := hP
    have hD : va_D A [(bv, .inl (cB, cap, .inl f)), (ra4, .inl (cB, n, .inl (va_cpy f (fun _ => 0) i0 0 n)))] := hD
    have hK : va_K (dC, dI) vwCl [(cB, .byte)] s := hK
    refine W.widen (k := 1) (n := 160) (Nat.le_of_ble_eq_true rfl) (Nat.le_of_ble_eq_true rfl) ?_
    have hP9 := hP.sub (ws' := [(bv, .inl (cB, cap, .inl f)), (ra4, .inl (cB, n, .inl (va_cpy f (fun _ => 0) i0 0 n)))]) [0, 1] rfl
    have hD9 := hD.sub (ws' := [(bv, .inl (cB, cap, .inl f)), (ra4, .inl (cB, n, .inl (va_cpy f (fun _ => 0) i0 0 n)))]) [0, 1] (by decide) rfl
    have hK9 := hK.sub (tys' := [(cB, .byte)]) [0] rfl
    refine W.widen (k := 1) (n := 160) (Nat.le_of_ble_eq_true rfl) (Nat.le_of_ble_eq_true rfl) ?_
    exact W.aret (v := .ref ra4) hx hb hr (Or.inr ⟨_, rfl⟩) (Or.inr ⟨_, rfl⟩) (fun t ht hW => ⟨⟨(), ra4, rfl, trivial, ⟨by rw [ht]; exact hP9, va_K.moved hW.alike hK9, hD9⟩⟩, hS.F ht⟩) hS.2.2 d_AR_copyOfRange_16
  · have h1 : i0 = 0 := (nI_eq (by omega) (by decide)).mp h1
    refine lv_iload_n hx hb d_AR_copyOfRange_4 rfl (lv_at hl 2 rfl) ?_
    refine lv_aload_n hx hb d_AR_copyOfRange_5 rfl (lv_at hl 0 rfl) ?_
    refine va_alen (v := (nI cap)) hx hb hK hP 0 0 rfl rfl rfl d_AR_copyOfRange_6 ?_
    have hnc : ¬ nI (i0 + n) = nI cap := fun h => hne ⟨h1, (nI_eq (by omega) (by omega)).mp h⟩
    refine lv_icmp_eq (tgt := 17) hx hb d_AR_copyOfRange_7 rfl (fun h9 => absurd h9 (hnc)) (fun _ => ?_)
    refine lv_aload_n hx hb d_AR_copyOfRange_10 rfl (lv_at hl 0 rfl) ?_
    refine lv_iload_n hx hb d_AR_copyOfRange_11 rfl (lv_at hl 1 rfl) ?_
    refine lv_iload_n hx hb d_AR_copyOfRange_12 rfl (lv_at hl 2 rfl) ?_
    have hPc := hP.sub (ws' := [(bv, .inl (cB, cap, .inl f))]) [0] rfl
    have hDc := hD.sub (ws' := [(bv, .inl (cB, cap, .inl f))]) [0] (by decide) rfl
    have hFc := va_free (wc := [(bv, .inl (cB, cap, .inl f))]) hD hS hA [0] rfl
    have hKc := hK.sub (tys' := [(cB, .byte)]) [0] rfl
    refine va_callr (va_runS (As := [.ref bv, .int (nI i0), .int (nI (i0 + n))]) (rest := []) ⟨hx, hb, hml, hown, htb⟩ (k_AR_copyOfRangeByte2 l dC dI _ bv cB f cap i0 n hf hn hc hc2) (va_cwS 3 htb (g_S (fun _ h => h) m_285 m_283 m_284 m_14) rfl rfl rfl (by decide +kernel) ⟨Nat.le_of_ble_eq_true rfl, Nat.le_of_ble_eq_true rfl⟩) ⟨fun a U g mk q => by obtain ⟨q0, q1, qP, qK, qD⟩ := q; exact ⟨q0, q1, qP, va_K.moved (u := U) (U := U.calling g mk a) (Vm.Alike.refl U.vm) qK, qD⟩, fun U hU hW => ⟨rfl, by rw [hU], by rw [hU]; exact hPc, va_K.moved hW.alike hKc, hDc.weaken (fun _ _ _ _ => trivial)⟩⟩ rfl rfl hl.1 rfl (lv_room (Nat.le_of_ble_eq_true rfl)) d_AR_copyOfRange_13 ⟨Nat.le_of_ble_eq_true rfl, Nat.le_of_ble_eq_true rfl⟩) hS (fun q _ h => hFc q h) hFc (fun u1 ra4 t H1 locs ht hvm hw3 hB hz1 hk1 hS => ?_)
    obtain ⟨hP1, hK1, hD1⟩ := hB
    rw [ht] at hP1
    have hK1 := va_K.moved hvm.symm hK1
    have hw3 : True := hw3
    obtain ⟨hP, hD⟩ := va_join (wr := []) (w1 := [(bv, .inl (cB, cap, .inl f)), (ra4, .inl (cB, n, .inl (va_cpy f (fun _ => 0) i0 0 n)))]) hP hD [0] [] rfl rfl (by decide) (by decide) hk1 hFc hP1 hD1
    have hK := (hK.sub (tys' := []) [] rfl).app hK1
    generalize H1 = H at hP hS ⊢
    have hP : va_P (dC, dI) vwCl [(bv, .inl (cB, cap, .inl f)), (ra4, .inl (cB, n, .inl (va_cpy f (fun _ => 0) i0 0 n)))] H := hP
    have hD : va_D A [(bv, .inl (cB, cap, .inl f)), (ra4, .inl (cB, n, .inl (va_cpy f (fun _ => 0) i0 0 n)))] := hD
    have hK : va_K (dC, dI) vwCl [(cB, .byte)] s := hK
    refine W.widen (k := 1) (n := 160) (Nat.le_of_ble_eq_true rfl) (Nat.le_of_ble_eq_true rfl) ?_
    have hP9 := hP.sub (ws' := [(bv, .inl (cB, cap, .inl f)), (ra4, .inl (cB, n, .inl (va_cpy f (fun _ => 0) i0 0 n)))]) [0, 1] rfl
    have hD9 := hD.sub (ws' := [(bv, .inl (cB, cap, .inl f)), (ra4, .inl (cB, n, .inl (va_cpy f (fun _ => 0) i0 0 n)))]) [0, 1] (by decide) rfl
    have hK9 := hK.sub (tys' := [(cB, .byte)]) [0] rfl
    refine W.widen (k := 1) (n := 160) (Nat.le_of_ble_eq_true rfl) (Nat.le_of_ble_eq_true rfl) ?_
    exact W.aret (v := .ref ra4) hx hb hr (Or.inr ⟨_, rfl⟩) (Or.inr ⟨_, rfl⟩) (fun t ht hW => ⟨⟨(), ra4, rfl, trivial, ⟨by rw [ht]; exact hP9, va_K.moved hW.alike hK9, hD9⟩⟩, hS.F ht⟩) hS.2.2 d_AR_copyOfRange_16
set_option maxHeartbeats 1000000 in
set_option maxRecDepth 100000 in
/-- String(bytes, coder) -/
theorem k_ST_init3 (l : Launch) (dC : Nat → ClassId) (dI : Nat → Nat → Nat) (sz : Nat) (y : Nat) (bw : Nat) : Met l y_ST_init3 ws_ST_init3 ({ frames := 1, cells := 0, slots := 0, locals := 12 }) (va_Pc [.ref y, .ref bw, .int 0] (fun U => U.heap.size = sz ∧ va_P (dC, dI) vwCl [(y, .inr (15, [.null, .int 0, .int 0, .int 0]))] U.heap ∧ va_K (dC, dI) vwCl [] U ∧ va_D (fun _ => True) [(y, .inr (15, [.null, .int 0, .int 0, .int 0]))])) (va_Qv (fun (u : Unit) => True) (fun u t => va_P (dC, dI) vwCl [(y, .inr (15, [.ref bw, .int 0, .int 0, .int 0]))] t.heap ∧ va_K (dC, dI) vwCl [] t ∧ va_D (va_A [(y, .inr (15, [.null, .int 0, .int 0, .int 0]))] sz) [(y, .inr (15, [.ref bw, .int 0, .int 0, .int 0]))]) (va_A [(y, .inr (15, [.null, .int 0, .int 0, .int 0]))] sz)) 0 0 (va_A [(y, .inr (15, [.null, .int 0, .int 0, .int 0]))] sz) := by
  refine Met.ofW (cc := c_ST_init3) (maxL := 3) (ret := none) (by decide) rfl ?_
  intro p e s m args below meth c s₁ B hml hv
  obtain ⟨rfl, hsz, hP, hK, hD0⟩ := hv
  have hx := B.exec
  have hb := B.bytes
  have hr := B.returns
  have hts := atoms_spec (ws := ws_ST_init3) B.pre
  have htb := fun w (h : w ∈ TBL) => hts w (List.mem_cons_of_mem _ h)
  have hown : s.vm.findClass R_ST = some m.cls := findClass_of_methodNamed B.named
  have hlocks := B.notSynchronized
  have hin : meth.name = "<init>" := (name_of_methodNamed B.named B.method).1
  subst hsz
  have hD := hD0.self (sz := s.heap.size)
  generalize hAe : va_A [(y, .inr (15, [.null, .int 0, .int 0, .int 0]))] s.heap.size = A at hD ⊢
  have hA : ∀ q : Nat, s.heap.size ≤ q → A q := fun q h => by rw [← hAe]; exact Or.inr h
  have hS : va_S A s.heap s.heap [] := va_S.rf
  have hP : va_P (dC, dI) vwCl [(y, .inr (15, [.null, .int 0, .int 0, .int 0]))] s.heap := hP
  have hl := lv_entry ([.ref y, .ref bw, .int 0]) (n := 3) (Nat.le_of_ble_eq_true rfl)
  rw [lg_entry_eq]
  generalize (lg_sl ([.ref y, .ref bw, .int 0]) ++ List.replicate (3 - (lg_sl ([.ref y, .ref bw, .int 0])).length) Slot.unset).toArray = ls at hl ⊢
  have hl : lv_has ls 3 [(0, .ref y), (1, .ref bw), (2, .int 0)] := hl
  refine lv_aload_n hx hb d_ST_init3_0 rfl (lv_at hl 0 rfl) ?_
  refine W.objInit hx hb hown (htb _ m_265) (htb _ m_35) (htb _ m_36) rfl (by rw [hml]; exact hl.1) rfl d_ST_init3_1 (Nat.le_of_ble_eq_true rfl) (Nat.le_of_ble_eq_true rfl) ?_
  refine W.eq (g2 := F0 m 4 ls []) rfl ?_
  refine lv_aload_n hx hb d_ST_init3_4 rfl (lv_at hl 0 rfl) ?_
  refine lv_aload_n hx hb d_ST_init3_5 rfl (lv_at hl 1 rfl) ?_
  refine va_putF (D := (dC, dI)) (ci := 15) (v := .ref bw) (ty := (.array .byte)) (C := R_ST) (T := T_ST) (N := 4) hx hb htb in_ST ty_ST ty_ST_ok nm_ST hown hK hP hD hS 0 rfl rfl 0 (by decide) (htb _ m_323) (fun _ h9 => h9) rfl hin rfl (by decide +kernel) rfl rfl (Nat.le_of_ble_eq_true rfl) d_ST_init3_6 (fun H locs hP hD hS => ?_)
  have hP : va_P (dC, dI) vwCl [(y, .inr (15, [.ref bw, .int 0, .int 0, .int 0]))] H := hP
  have hD : va_D A [(y, .inr (15, [.ref bw, .int 0, .int 0, .int 0]))] := hD
  refine lv_aload_n hx hb d_ST_init3_9 rfl (lv_at hl 0 rfl) ?_
  refine lv_iload_n hx hb d_ST_init3_10 rfl (lv_at hl 2 rfl) ?_
  refine va_putF (D := (dC, dI)) (ci := 15) (v := .int 0) (ty := .byte) (C := R_ST) (T := T_ST) (N := 4) hx hb htb in_ST ty_ST ty_ST_ok nm_ST hown hK hP hD hS 0 rfl rfl 1 (by decide) (htb _ m_324) (fun _ h9 => h9) rfl hin rfl (by decide +kernel) rfl rfl (Nat.le_of_ble_eq_true rfl) d_ST_init3_11 (fun H locs hP hD hS => ?_)
  have hP : va_P (dC, dI) vwCl [(y, .inr (15, [.ref bw, .int 0, .int 0, .int 0]))] H := hP
  have hD : va_D A [(y, .inr (15, [.ref bw, .int 0, .int 0, .int 0]))] := hD
  have hP9 := hP.sub (ws' := [(y, .inr (15, [.ref bw, .int 0, .int 0, .int 0]))]) [0] rfl
  have hD9 := hD.sub (ws' := [(y, .inr (15, [.ref bw, .int 0, .int 0, .int 0]))]) [0] (by decide) rfl
  have hK9 := hK.sub (tys' := []) [] rfl
  refine W.widen (k := 0) (n := 0) (Nat.le_of_ble_eq_true rfl) (Nat.le_of_ble_eq_true rfl) ?_
  exact W.vret hx hb hr (fun t ht hW => ⟨⟨(), rfl, trivial, ⟨by rw [ht]; exact hP9, va_K.moved hW.alike hK9, hD9⟩⟩, hS.F ht⟩) hS.2.2 d_ST_init3_14
set_option maxHeartbeats 1000000 in
set_option maxRecDepth 100000 in
/-- newString(bytes, from, n) -/
theorem k_LT_newString (l : Launch) (dC : Nat → ClassId) (dI : Nat → Nat → Nat) (sz : Nat) (bv : Nat) (f : Nat → Int32) (tx : List Nat) (i0 : Nat) (n : Nat) (cB : ClassId) (em : Nat) (aK : Nat → Nat) (aV : Nat → Nat) (fz : va_W) (hf : ∀ j, j < tx.length → fits .byte (.int (f j)) = true) (hfx : ∀ i, i < tx.length → f i = sb_b (tx.getD i 0)) (hcc : ∀ c ∈ tx, c < 128) (hl1 : tx.length ≤ 160) (hc : i0 + n ≤ tx.length) (hne : ¬ (i0 = 0 ∧ i0 + n = tx.length)) : Met l y_LT_newString ws_LT_newString ({ frames := 3, cells := 2, slots := 164, locals := 86 }) (va_Pc [.ref bv, .int (nI i0), .int (nI n)] (fun U => U.heap.size = sz ∧ va_P (dC, dI) vwCl ([(bv, .inl (cB, tx.length, .inl f))] ++ fz) U.heap ∧ va_K (dC, dI) vwCl [(cB, .byte)] U ∧ va_D (fun _ => True) ([(bv, .inl (cB, tx.length, .inl f))] ++ fz) ∧ EX em aK aV (va_A ([(bv, .inl (cB, tx.length, .inl f))] ++ fz) sz) U U.heap)) (va_Qq (fun (r : Option Nat) (u : va_W) => ∃ y8, r = some y8 ∧ TX cB aK (u ++ fz) y8 ((tx.drop i0).take n)) (fun u t => va_P (dC, dI) vwCl ([(bv, .inl (cB, tx.length, .inl f))] ++ (u ++ fz)) t.heap ∧ va_K (dC, dI) vwCl [(cB, .byte)] t ∧ va_D (va_A ([(bv, .inl (cB, tx.length, .inl f))] ++ fz) sz) ([(bv, .inl (cB, tx.length, .inl f))] ++ (u ++ fz))) (va_A ([(bv, .inl (cB, tx.length, .inl f))] ++ fz) sz)) 2 164 (va_A ([(bv, .inl (cB, tx.length, .inl f))] ++ fz) sz) := by
  refine Met.ofW (cc := c_LT_newString) (maxL := 3) (ret := (some (.object "java/lang/String"))) (by decide) rfl ?_
  intro p e s m args below meth c s₁ B hml hv
  obtain ⟨rfl, hsz, hP, hK, hD0, hE⟩ := hv
  have hx := B.exec
  have hb := B.bytes
  have hr := B.returns
  have hts := atoms_spec (ws := ws_LT_newString) B.pre
  have htb := fun w (h : w ∈ TBL) => hts w (List.mem_cons_of_mem _ h)
  have hown : s.vm.findClass R_LT = some m.cls := findClass_of_methodNamed B.named
  have hlocks := B.notSynchronized
  subst hsz
  have hD := hD0.self (sz := s.heap.size)
  generalize hAe : va_A ([(bv, .inl (cB, tx.length, .inl f))] ++ fz) s.heap.size = A at hD hE ⊢
  have hA : ∀ q : Nat, s.heap.size ≤ q → A q := fun q h => by rw [← hAe]; exact Or.inr h
  have hS : va_S A s.heap s.heap [] := va_S.rf
  have hP : va_P (dC, dI) vwCl ([(bv, .inl (cB, tx.length, .inl f))] ++ fz) s.heap := hP
  have hl := lv_entry ([.ref bv, .int (nI i0), .int (nI n)]) (n := 3) (Nat.le_of_ble_eq_true rfl)
  rw [lg_entry_eq]
  generalize (lg_sl ([.ref bv, .int (nI i0), .int (nI n)]) ++ List.replicate (3 - (lg_sl ([.ref bv, .int (nI i0), .int (nI n)])).length) Slot.unset).toArray = ls at hl ⊢
  have hl : lv_has ls 3 [(0, .ref bv), (1, .int (nI i0)), (2, .int (nI n))] := hl
  refine lv_iload_n hx hb d_LT_newString_0 rfl (lv_at hl 2 rfl) ?_
  refine lv_if_ne (tgt := 7) hx hb d_LT_newString_1 rfl (fun h1 => ?_) (fun h1 => ?_)
  · have h1 : ¬ n = 0 := fun h => h1 (by rw [h]; rfl)
    refine va_new (ci := 15) (fs := [.null, .int 0, .int 0, .int 0]) (C := R_ST) (T := T_ST) (N := 4) hx hb htb in_ST ty_ST ty_ST_ok hown (htb _ m_654) (htb _ m_258) (htb _ m_4) hK hP hD hS hA rfl (fun j hj => by rcases (show j = 0 ∨ j = 1 ∨ j = 2 ∨ j = 3 by omega) with rfl | rfl | rfl | rfl <;> rfl) (Nat.le_of_ble_eq_true rfl) (Nat.le_of_ble_eq_true rfl) d_LT_newString_7 (fun ys H hP hD hS => ?_)
    have hP := zz_rotP (pre := [(bv, .inl (cB, tx.length, .inl f))]) (fz := fz) hP
    have hD := zz_rotD (pre := [(bv, .inl (cB, tx.length, .inl f))]) (fz := fz) hD
    have hP : va_P (dC, dI) vwCl ([(bv, .inl (cB, tx.length, .inl f)), (ys, .inr (15, [.null, .int 0, .int 0, .int 0]))] ++ fz) H := hP
    have hD : va_D A ([(bv, .inl (cB, tx.length, .inl f)), (ys, .inr (15, [.null, .int 0, .int 0, .int 0]))] ++ fz) := hD
    refine W.widen (k := 1) (n := 4) (Nat.le_of_ble_eq_true rfl) (Nat.le_of_ble_eq_true rfl) ?_
    refine lv_dup hx hb d_LT_newString_10 rfl ?_
    refine lv_aload_n hx hb d_LT_newString_11 rfl (lv_at hl 0 rfl) ?_
    refine lv_iload_n hx hb d_LT_newString_12 rfl (lv_at hl 1 rfl) ?_
    refine lv_iload_n hx hb d_LT_newString_13 rfl (lv_at hl 1 rfl) ?_
    refine lv_iload_n hx hb d_LT_newString_14 rfl (lv_at hl 2 rfl) ?_
    refine lv_iadd hx hb d_LT_newString_15 ?_
    refine W.eq (congrArg (fun z => F0 m 16 ls (.int z :: [.int (nI i0), .ref bv, .ref ys, .ref ys])) (nI_add _ _ : ((nI i0) + (nI n)) = nI (i0 + n))) ?_
    have hPc := hP.sub (ws' := [(bv, .inl (cB, tx.length, .inl f))]) [0] rfl
    have hDc := hD.sub (ws' := [(bv, .inl (cB, tx.length, .inl f))]) [0] (by decide) rfl
    have hFc := va_free (wc := [(bv, .inl (cB, tx.length, .inl f))]) hD hS hA [0] rfl
    have hKc := hK.sub (tys' := [(cB, .byte)]) [0] rfl
    refine va_callr (va_runS (As := [.ref bv, .int (nI i0), .int (nI (i0 + n))]) (rest := [.ref ys, .ref ys]) ⟨hx, hb, hml, hown, htb⟩ (k_AR_copyOfRange2 l dC dI _ bv cB f tx.length i0 n hf (by omega) hc (by omega) hne) (va_cwS 3 htb (g_S (fun _ h => h) m_282 m_655 m_281 m_14) rfl rfl rfl (by decide +kernel) ⟨Nat.le_of_ble_eq_true rfl, Nat.le_of_ble_eq_true rfl⟩) ⟨fun a U g mk q => by obtain ⟨q0, q1, qP, qK, qD⟩ := q; exact ⟨q0, q1, qP, va_K.moved (u := U) (U := U.calling g mk a) (Vm.Alike.refl U.vm) qK, qD⟩, fun U hU hW => ⟨rfl, by rw [hU], by rw [hU]; exact hPc, va_K.moved hW.alike hKc, hDc.weaken (fun _ _ _ _ => trivial)⟩⟩ rfl rfl hl.1 rfl (lv_room (Nat.le_of_ble_eq_true rfl)) d_LT_newString_16 ⟨Nat.le_of_ble_eq_true rfl, Nat.le_of_ble_eq_true rfl⟩) hS (fun q _ h => hFc q h) hFc (fun u1 ra4 t H1 locs ht hvm hw3 hB hz1 hk1 hS => ?_)
    obtain ⟨hP1, hK1, hD1⟩ := hB
    rw [ht] at hP1
    have hK1 := va_K.moved hvm.symm hK1
    have hw3 : True := hw3
    obtain ⟨hP, hD⟩ := zz_joinN (pre := [(bv, .inl (cB, tx.length, .inl f)), (ys, .inr (15, [.null, .int 0, .int 0, .int 0]))]) (fz := fz) (wc := [(bv, .inl (cB, tx.length, .inl f))]) (wr := [(ys, .inr (15, [.null, .int 0, .int 0, .int 0]))]) (w1 := [(bv, .inl (cB, tx.length, .inl f)), (ra4, .inl (cB, n, .inl (va_cpy f (fun _ => 0) i0 0 n)))]) hP hD [0] [1] rfl rfl (by decide) (by decide) hk1 hFc hP1 hD1
    have hK := (hK.sub (tys' := []) [] rfl).app hK1
    generalize H1 = H at hP hS ⊢
    have hP : va_P (dC, dI) vwCl ([(ys, .inr (15, [.null, .int 0, .int 0, .int 0])), (bv, .inl (cB, tx.length, .inl f)), (ra4, .inl (cB, n, .inl (va_cpy f (fun _ => 0) i0 0 n)))] ++ fz) H := hP
    have hD : va_D A ([(ys, .inr (15, [.null, .int 0, .int 0, .int 0])), (bv, .inl (cB, tx.length, .inl f)), (ra4, .inl (cB, n, .inl (va_cpy f (fun _ => 0) i0 0 n)))] ++ fz) := hD
    have hK : va_K (dC, dI) vwCl [(cB, .byte)] s := hK
    refine W.widen (k := 2) (n := 164) (Nat.le_of_ble_eq_true rfl) (Nat.le_of_ble_eq_true rfl) ?_
    refine lv_iconst (v := 0) hx hb d_LT_newString_19 (by decide) ?_
    have hPc := hP.sub (ws' := [(ys, .inr (15, [.null, .int 0, .int 0, .int 0]))]) [0] rfl
    have hDc := hD.sub (ws' := [(ys, .inr (15, [.null, .int 0, .int 0, .int 0]))]) [0] (by decide) rfl
    have hFc := va_free (wc := [(ys, .inr (15, [.null, .int 0, .int 0, .int 0]))]) hD hS hA [0] rfl
    have hKc := hK.sub (tys' := []) [] rfl
    refine va_callv (va_runI (As := [.ref ra4, .int 0]) (rest := [.ref ys]) ⟨hx, hb, hml, hown, htb⟩ (k_ST_init3 l dC dI _ ys ra4 ) (cwI 2 htb (g_all (fun _ h => h) m_658) rfl rfl rfl (htb _ m_4) (htb _ m_656) (htb _ m_657) rfl (by decide +kernel) ⟨Nat.le_of_ble_eq_true rfl, Nat.le_of_ble_eq_true rfl⟩) ⟨fun a U g mk q => by obtain ⟨q0, q1, qP, qK, qD⟩ := q; exact ⟨q0, q1, qP, va_K.moved (u := U) (U := U.calling g mk a) (Vm.Alike.refl U.vm) qK, qD⟩, fun U hU hW => ⟨rfl, by rw [hU], by rw [hU]; exact hPc, va_K.moved hW.alike hKc, hDc.weaken (fun _ _ _ _ => trivial)⟩⟩ rfl rfl hl.1 rfl (lv_room (Nat.le_of_ble_eq_true rfl)) d_LT_newString_20 ⟨Nat.le_of_ble_eq_true rfl, Nat.le_of_ble_eq_true rfl⟩) hS (fun q _ h => hFc q h) hFc (fun u5 t H1 locs ht hvm hw7 hB hz1 hk1 hS => ?_)
    obtain ⟨hP1, hK1, hD1⟩ := hB
    rw [ht] at hP1
    have hK1 := va_K.moved hvm.symm hK1
    have hw7 : True := hw7
    obtain ⟨hP, hD⟩ := zz_joinN (pre := [(ys, .inr (15, [.null, .int 0, .int 0, .int 0])), (bv, .inl (cB, tx.length, .inl f)), (ra4, .inl (cB, n, .inl (va_cpy f (fun _ => 0) i0 0 n)))]) (fz := fz) (wc := [(ys, .inr (15, [.null, .int 0, .int 0, .int 0]))]) (wr := [(bv, .inl (cB, tx.length, .inl f)), (ra4, .inl (cB, n, .inl (va_cpy f (fun _ => 0) i0 0 n)))]) (w1 := [(ys, .inr (15, [.ref ra4, .int 0, .int 0, .int 0]))]) hP hD [0] [1, 2] rfl rfl (by decide) (by decide) hk1 hFc hP1 hD1
    have hK := (hK.sub (tys' := [(cB, .byte)]) [0] rfl).app hK1
    generalize H1 = H at hP hS ⊢
    have hP : va_P (dC, dI) vwCl ([(bv, .inl (cB, tx.length, .inl f)), (ra4, .inl (cB, n, .inl (va_cpy f (fun _ => 0) i0 0 n))), (ys, .inr (15, [.ref ra4, .int 0, .int 0, .int 0]))] ++ fz) H := hP
    have hD : va_D A ([(bv, .inl (cB, tx.length, .inl f)), (ra4, .inl (cB, n, .inl (va_cpy f (fun _ => 0) i0 0 n))), (ys, .inr (15, [.ref ra4, .int 0, .int 0, .int 0]))] ++ fz) := hD
    have hK : va_K (dC, dI) vwCl [(cB, .byte)] s := hK
    have hsl : ((tx.drop i0).take n).length = n := by rw [List.length_take, List.length_drop]; omega
    have hP9 := zz_pickP (pre := [(bv, .inl (cB, tx.length, .inl f)), (ra4, .inl (cB, n, .inl (va_cpy f (fun _ => 0) i0 0 n))), (ys, .inr (15, [.ref ra4, .int 0, .int 0, .int 0]))]) (fz := fz) (wc := [(bv, .inl (cB, tx.length, .inl f)), (ys, .inr (15, [.ref ra4, .int 0, .int 0, .int 0])), (ra4, .inl (cB, n, .inl (va_cpy f (fun _ => 0) i0 0 n)))]) hP [0, 2, 1] rfl
    have hD9 := zz_pickD (pre := [(bv, .inl (cB, tx.length, .inl f)), (ra4, .inl (cB, n, .inl (va_cpy f (fun _ => 0) i0 0 n))), (ys, .inr (15, [.ref ra4, .int 0, .int 0, .int 0]))]) (fz := fz) (wc := [(bv, .inl (cB, tx.length, .inl f)), (ys, .inr (15, [.ref ra4, .int 0, .int 0, .int 0])), (ra4, .inl (cB, n, .inl (va_cpy f (fun _ => 0) i0 0 n)))]) hD [0, 2, 1] (by decide) rfl
    have hK9 := hK.sub (tys' := [(cB, .byte)]) [0] rfl
    refine W.widen (k := 2) (n := 164) (Nat.le_of_ble_eq_true rfl) (Nat.le_of_ble_eq_true rfl) ?_
    exact W.aret (v := .ref ys) hx hb hr (Or.inl ⟨_, rfl⟩) (Or.inr ⟨_, rfl⟩) (fun t ht hW => ⟨⟨(some ys), [(ys, .inr (15, [.ref ra4, .int 0, .int 0, .int 0])), (ra4, .inl (cB, n, .inl (va_cpy f (fun _ => 0) i0 0 n)))], rfl, ⟨_, rfl, Or.inl ⟨ra4, (va_cpy f (fun _ => 0) i0 0 n), List.mem_cons_self, by rw [hsl]; exact List.mem_cons_of_mem _ List.mem_cons_self, sub_cpy hfx hc, fun c hc9 => hcc c (List.mem_of_mem_drop (List.mem_of_mem_take hc9)), by omega⟩⟩, ⟨by rw [ht]; exact hP9, va_K.moved hW.alike hK9, hD9⟩⟩, hS.F ht⟩) hS.2.2 d_LT_newString_23
  · have h1 : n = 0 := (nI_eq (by omega) (by decide)).mp h1
    refine va_ldcS hx hb hown (lr_15 hE) d_LT_newString_4 ?_
    have hP9 := zz_pickP (pre := [(bv, .inl (cB, tx.length, .inl f))]) (fz := fz) (wc := [(bv, .inl (cB, tx.length, .inl f))]) hP [0] rfl
    have hD9 := zz_pickD (pre := [(bv, .inl (cB, tx.length, .inl f))]) (fz := fz) (wc := [(bv, .inl (cB, tx.length, .inl f))]) hD [0] (by decide) rfl
    have hK9 := hK.sub (tys' := [(cB, .byte)]) [0] rfl
    refine W.widen (k := 2) (n := 164) (Nat.le_of_ble_eq_true rfl) (Nat.le_of_ble_eq_true rfl) ?_
    exact W.aret (v := .ref (aK 0)) hx hb hr (Or.inl ⟨_, rfl⟩) (Or.inr ⟨_, rfl⟩) (fun t ht hW => ⟨⟨(some (aK 0)), ([] : va_W), rfl, ⟨_, rfl, Or.inr ⟨0, by decide, rfl, by rw [h1]; rfl⟩⟩, ⟨by rw [ht]; exact hP9, va_K.moved hW.alike hK9, hD9⟩⟩, hS.F ht⟩) hS.2.2 d_LT_newString_6
set_option maxHeartbeats 1000000 in
set_option maxRecDepth 100000 in
/-- substring(from, to) -/
theorem k_ST_substring (l : Launch) (dC : Nat → ClassId) (dI : Nat → Nat → Nat) (sz : Nat) (a : Nat) (tx : List Nat) (i0 : Nat) (n : Nat) (cB : ClassId) (em : Nat) (aK : Nat → Nat) (aV : Nat → Nat) (fz : va_W) (htz : TXz cB fz a tx) (hc : i0 + n ≤ tx.length) : Met l y_ST_substring ws_ST_substring ({ frames := 4, cells := 2, slots := 164, locals := 108 }) (va_Pc [.ref a, .int (nI i0), .int (nI (i0 + n))] (fun U => U.heap.size = sz ∧ va_P (dC, dI) vwCl ([] ++ fz) U.heap ∧ va_K (dC, dI) vwCl [(cB, .byte)] U ∧ va_D (fun _ => True) ([] ++ fz) ∧ EX em aK aV (va_A ([] ++ fz) sz) U U.heap)) (va_Qq (fun (r : Option Nat) (u : va_W) => ∃ y8, r = some y8 ∧ TX cB aK (u ++ fz) y8 ((tx.drop i0).take n)) (fun u t => va_P (dC, dI) vwCl ([] ++ (u ++ fz)) t.heap ∧ va_K (dC, dI) vwCl [(cB, .byte)] t ∧ va_D (va_A ([] ++ fz) sz) ([] ++ (u ++ fz))) (va_A ([] ++ fz) sz)) 2 164 (va_A ([] ++ fz) sz) := by
  refine Met.ofW (cc := c_ST_substring) (maxL := 5) (ret := (some (.object "java/lang/String"))) (by decide) rfl ?_
  intro p e s m args below meth c s₁ B hml hv
  obtain ⟨rfl, hsz, hP, hK, hD0, hE⟩ := hv
  have hx := B.exec
  have hb := B.bytes
  have hr := B.returns
  have hts := atoms_spec (ws := ws_ST_substring) B.pre
  have htb := fun w (h : w ∈ TBL) => hts w (List.mem_cons_of_mem _ h)
  have hown : s.vm.findClass R_ST = some m.cls := findClass_of_methodNamed B.named
  have hlocks := B.notSynchronized
  subst hsz
  have hD := hD0.self (sz := s.heap.size)
  generalize hAe : va_A ([] ++ fz) s.heap.size = A at hD hE ⊢
  have hA : ∀ q : Nat, s.heap.size ≤ q → A q := fun q h => by rw [← hAe]; exact Or.inr h
  have hS : va_S A s.heap s.heap [] := va_S.rf
  have hP : va_P (dC, dI) vwCl ([] ++ fz) s.heap := hP
  have hl := lv_entry ([.ref a, .int (nI i0), .int (nI (i0 + n))]) (n := 5) (Nat.le_of_ble_eq_true rfl)
  rw [lg_entry_eq]
  generalize (lg_sl ([.ref a, .int (nI i0), .int (nI (i0 + n))]) ++ List.replicate (5 - (lg_sl ([.ref a, .int (nI i0), .int (nI (i0 + n))])).length) Slot.unset).toArray = ls at hl ⊢
  have hl : lv_has ls 5 [(0, .ref a), (1, .int (nI i0)), (2, .int (nI (i0 + n)))] := hl
  have htx : TX cB aK fz a tx := Or.inl htz
  refine lv_aload_n hx hb d_ST_substring_0 rfl (lv_at hl 0 rfl) ?_
  obtain ⟨v_a, hSV_a⟩ := htx.sv htb hE (fun q h1 h2 => hS.2.1 q h1 h2) hK hP (fun q hq => List.mem_append_right _ hq) 0 rfl
  have hlt : tx.length < 65536 := hSV_a.2.2.2.2.2
  have hPc : va_P (dC, dI) vwCl [] _ := hP.sub (ws' := []) [] rfl
  have hKc := hK.sub (tys' := []) [] rfl
  refine vp_callSi (W.runV (As := []) (rest := []) ⟨hx, hb, hml, hown, htb⟩ (q_ST_length l dC dI a v_a tx em aK aV A ) (cwV 0 htb (g_V (fun _ h => h) m_452 m_643 m_450 m_451 m_4) rfl rfl rfl (by decide +kernel) ⟨Nat.le_of_ble_eq_true rfl, Nat.le_of_ble_eq_true rfl⟩) ⟨fun a U g mk q => by obtain ⟨q0, qP, qK, z0, z1⟩ := q; exact ⟨q0, qP, va_K.moved (u := U) (U := U.calling g mk a) (Vm.Alike.refl U.vm) qK, EX.same (U := U) (U' := U.calling g mk a) rfl z0, SV.moved (Vm.Alike.refl U.vm) z1⟩, hSV_a.recv, fun U hU hW => ⟨rfl, by rw [hU]; exact hPc, va_K.moved hW.alike hKc, by rw [hU]; exact EX.warm hW (hE.kept (fun a h1 h2 => hS.2.1 a h1 h2)), by rw [hU]; exact SV.moved hW.alike hSV_a⟩⟩ rfl rfl hl.1 rfl (lv_room (Nat.le_of_ble_eq_true rfl)) d_ST_substring_1 ⟨Nat.le_of_ble_eq_true rfl, Nat.le_of_ble_eq_true rfl⟩) (fun r1 hw2 => ?_)
  have hw2 : r1 = nI tx.length := hw2
  obtain rfl := hw2
  refine lv_istore_n hx hb d_ST_substring_4 rfl hl (by decide) rfl (fun ls hl => ?_)
  have hl : lv_has ls 5 [(3, .int (nI tx.length)), (0, .ref a), (1, .int (nI i0)), (2, .int (nI (i0 + n)))] := hl
  refine lv_iload_n hx hb d_ST_substring_5 rfl (lv_at hl 2 rfl) ?_
  refine lv_iload_n hx hb d_ST_substring_6 rfl (lv_at hl 3 rfl) ?_
  refine lv_iload_n hx hb d_ST_substring_7 rfl (lv_at hl 0 rfl) ?_
  have hPc : va_P (dC, dI) vwCl [] _ := hP.sub (ws' := []) [] rfl
  have hKc := hK.sub (tys' := []) [] rfl
  refine va_csv (W.runS (As := [.int (nI i0), .int (nI (i0 + n)), .int (nI tx.length)]) (rest := []) ⟨hx, hb, hml, hown, htb⟩ (q_ST_checkBoundsBeginEnd l dC dI i0 (i0 + n) tx.length em aK aV A (by omega) hc (by omega)) (va_cwS 3 htb (g_S (fun _ h => h) m_646 m_644 m_645 m_4) rfl rfl rfl (by decide +kernel) ⟨Nat.le_of_ble_eq_true rfl, Nat.le_of_ble_eq_true rfl⟩) ⟨fun a U g mk q => by obtain ⟨q0, qP, qK, z0⟩ := q; exact ⟨q0, qP, va_K.moved (u := U) (U := U.calling g mk a) (Vm.Alike.refl U.vm) qK, EX.same (U := U) (U' := U.calling g mk a) rfl z0⟩, fun U hU hW => ⟨rfl, by rw [hU]; exact hPc, va_K.moved hW.alike hKc, by rw [hU]; exact EX.warm hW (hE.kept (fun a h1 h2 => hS.2.1 a h1 h2))⟩⟩ rfl rfl hl.1 rfl (lv_room (Nat.le_of_ble_eq_true rfl)) d_ST_substring_8 ⟨Nat.le_of_ble_eq_true rfl, Nat.le_of_ble_eq_true rfl⟩) (fun hw4 => ?_)
  have hw4 : True := hw4
  refine lv_iload_n hx hb d_ST_substring_11 rfl (lv_at hl 2 rfl) ?_
  refine lv_if_ne (tgt := 22) hx hb d_ST_substring_12 rfl (fun h1 => ?_) (fun h1 => ?_)
  · have h1 : ¬ i0 = 0 := fun h => h1 (by rw [h]; rfl)
    have hne : ¬ (i0 = 0 ∧ i0 + n = tx.length) := fun h => h1 h.1
    refine lv_iload_n hx hb d_ST_substring_22 rfl (lv_at hl 3 rfl) ?_
    refine lv_iload_n hx hb d_ST_substring_23 rfl (lv_at hl 2 rfl) ?_
    refine lv_isub hx hb d_ST_substring_24 ?_
    refine W.eq (congrArg (fun z => F0 m 25 ls (.int z :: [])) (by rw [pk_sub (a := i0 + n) (b := i0) (by omega), Nat.add_sub_cancel_left] : ((nI (i0 + n)) - (nI i0)) = nI n)) ?_
    refine lv_istore hx hb d_ST_substring_25 hl (by decide) rfl (fun ls hl => ?_)
    have hl : lv_has ls 5 [(4, .int (nI n)), (3, .int (nI tx.length)), (0, .ref a), (1, .int (nI i0)), (2, .int (nI (i0 + n)))] := hl
    refine lv_aload_n hx hb d_ST_substring_27 rfl (lv_at hl 2 rfl) ?_
    have hPc : va_P (dC, dI) vwCl [] _ := hP.sub (ws' := []) [] rfl
    have hKc := hK.sub (tys' := []) [] rfl
    refine vp_callSi (W.runV (As := []) (rest := []) ⟨hx, hb, hml, hown, htb⟩ (q_ST_isLatin1 l dC dI a v_a tx em aK aV A ) (cwV 0 htb (g_V (fun _ h => h) m_464 m_461 m_462 m_463 m_4) rfl rfl rfl (by decide +kernel) ⟨Nat.le_of_ble_eq_true rfl, Nat.le_of_ble_eq_true rfl⟩) ⟨fun a U g mk q => by obtain ⟨q0, qP, qK, z0, z1⟩ := q; exact ⟨q0, qP, va_K.moved (u := U) (U := U.calling g mk a) (Vm.Alike.refl U.vm) qK, EX.same (U := U) (U' := U.calling g mk a) rfl z0, SV.moved (Vm.Alike.refl U.vm) z1⟩, hSV_a.recv, fun U hU hW => ⟨rfl, by rw [hU]; exact hPc, va_K.moved hW.alike hKc, by rw [hU]; exact EX.warm hW (hE.kept (fun a h1 h2 => hS.2.1 a h1 h2)), by rw [hU]; exact SV.moved hW.alike hSV_a⟩⟩ rfl rfl hl.1 rfl (lv_room (Nat.le_of_ble_eq_true rfl)) d_ST_substring_28 ⟨Nat.le_of_ble_eq_true rfl, Nat.le_of_ble_eq_true rfl⟩) (fun r5 hw6 => ?_)
    have hw6 : r5 = 1 := hw6
    refine lv_if_eq (tgt := 47) hx hb d_ST_substring_31 rfl (fun h9 => absurd h9 (by rw [hw6]; decide)) (fun _ => ?_)
    obtain ⟨bv, f, hm1, hm2, hfx, hcc, hl1⟩ := htz
    refine lv_aload_n hx hb d_ST_substring_34 rfl (lv_at hl 2 rfl) ?_
    obtain ⟨qz7, hz7⟩ := List.getElem?_of_mem (List.mem_append_right [] hm1)
    refine va_get (D := (dC, dI)) (ci := 15) (v := .ref bv) (C := R_ST) (T := T_ST) (N := 4) hx hb htb in_ST hown hK hP qz7 hz7 rfl 0 (by decide) (htb _ m_323) (fun _ h9 => h9) rfl d_ST_substring_35 ?_
    refine lv_iload_n hx hb d_ST_substring_38 rfl (lv_at hl 3 rfl) ?_
    refine lv_iload hx hb d_ST_substring_39 (lv_at hl 0 rfl) ?_
    obtain ⟨fz2, hpm⟩ := perm_mem hm2
    have hP := zz_permP (pre := []) (t1 := fz) (t2 := ((bv, .inl (cB, tx.length, .inl f)) :: fz2)) hP (hpm)
    have hD := zz_permD (pre := []) (t1 := fz) (t2 := ((bv, .inl (cB, tx.length, .inl f)) :: fz2)) hD (hpm)
    have hP : va_P (dC, dI) vwCl ([(bv, .inl (cB, tx.length, .inl f))] ++ fz2) _ := hP
    have hD : va_D A ([(bv, .inl (cB, tx.length, .inl f))] ++ fz2) := hD
    have hfit : ∀ j, j < tx.length → fits .byte (.int (f j)) = true := fun j hj => by rw [hfx j hj]; exact sb_fitB _
    have hPc := zz_pickP (pre := [(bv, .inl (cB, tx.length, .inl f))]) (fz := fz2) (wc := [(bv, .inl (cB, tx.length, .inl f))]) hP [0] rfl
    have hDc := zz_pickD (pre := [(bv, .inl (cB, tx.length, .inl f))]) (fz := fz2) (wc := [(bv, .inl (cB, tx.length, .inl f))]) hD [0] (by decide) rfl
    have hFc := zz_free (pre := [(bv, .inl (cB, tx.length, .inl f))]) (fz := fz2) (wc := [(bv, .inl (cB, tx.length, .inl f))]) hD hS hA [0] rfl
    have hKc := hK.sub (tys' := [(cB, .byte)]) [0] rfl
    refine va_callq (va_runS (As := [.ref bv, .int (nI i0), .int (nI n)]) (rest := []) ⟨hx, hb, hml, hown, htb⟩ (k_LT_newString l dC dI _ bv f tx i0 n cB em aK aV fz2 hfit hfx hcc hl1 hc hne) (va_cwS 3 htb (g_S (fun _ h => h) m_652 m_650 m_651 m_16) rfl rfl rfl (by decide +kernel) ⟨Nat.le_of_ble_eq_true rfl, Nat.le_of_ble_eq_true rfl⟩) ⟨fun a U g mk q => by obtain ⟨q0, q1, qP, qK, qD, z0⟩ := q; exact ⟨q0, q1, qP, va_K.moved (u := U) (U := U.calling g mk a) (Vm.Alike.refl U.vm) qK, qD, EX.same (U := U) (U' := U.calling g mk a) rfl z0⟩, fun U hU hW => ⟨rfl, by rw [hU], by rw [hU]; exact hPc, va_K.moved hW.alike hKc, hDc.weaken (fun _ _ _ _ => trivial), by rw [hU]; exact EX.warm hW ((hE.kept (fun a h1 h2 => hS.2.1 a h1 h2)).narrow hFc)⟩⟩ rfl rfl hl.1 rfl (lv_room (Nat.le_of_ble_eq_true rfl)) d_ST_substring_41 ⟨Nat.le_of_ble_eq_true rfl, Nat.le_of_ble_eq_true rfl⟩) hS (fun q _ h => hFc q h) hFc (fun r9 u8 t H1 locs ht hvm hw10 hB hz1 hk1 hS => ?_)
    obtain ⟨hP1, hK1, hD1⟩ := hB
    rw [ht] at hP1
    have hK1 := va_K.moved hvm.symm hK1
    have hw10 : ∃ y8, r9 = some y8 ∧ TX cB aK (u8 ++ fz2) y8 ((tx.drop i0).take n) := hw10
    obtain ⟨hP, hD⟩ := zz_join (pre := [(bv, .inl (cB, tx.length, .inl f))]) (fz := fz2) (wc := [(bv, .inl (cB, tx.length, .inl f))]) (wr := []) (w1 := ([(bv, .inl (cB, tx.length, .inl f))] ++ (u8 ++ fz2))) hP hD [0] [] rfl rfl (by decide) (by decide) hk1 hFc hP1 hD1
    have hK := (hK.sub (tys' := []) [] rfl).app hK1
    generalize H1 = H at hP hS ⊢
    have hP : va_P (dC, dI) vwCl ([(bv, .inl (cB, tx.length, .inl f))] ++ (u8 ++ fz2)) H := hP
    have hD : va_D A ([(bv, .inl (cB, tx.length, .inl f))] ++ (u8 ++ fz2)) := hD
    have hK : va_K (dC, dI) vwCl [(cB, .byte)] s := hK
    refine W.widen (k := 2) (n := 164) (Nat.le_of_ble_eq_true rfl) (Nat.le_of_ble_eq_true rfl) ?_
    obtain ⟨y8, rfl, hy8⟩ := hw10
    refine W.eq (g2 := F0 m 44 ls [.ref y8]) rfl ?_
    have hP := zz_pickP (pre := [(bv, .inl (cB, tx.length, .inl f))]) (fz := (u8 ++ fz2)) (wc := [(bv, .inl (cB, tx.length, .inl f))]) hP [0] rfl
    have hD := zz_pickD (pre := [(bv, .inl (cB, tx.length, .inl f))]) (fz := (u8 ++ fz2)) (wc := [(bv, .inl (cB, tx.length, .inl f))]) hD [0] (by decide) rfl
    have hP : va_P (dC, dI) vwCl ([] ++ ([(bv, .inl (cB, tx.length, .inl f))] ++ (u8 ++ fz2))) _ := hP
    have hD : va_D A ([] ++ ([(bv, .inl (cB, tx.length, .inl f))] ++ (u8 ++ fz2))) := hD
    have hP := zz_permP (pre := []) (t1 := ([(bv, .inl (cB, tx.length, .inl f))] ++ (u8 ++ fz2))) (t2 := (u8 ++ fz)) hP (((List.Perm.append_left _ hpm.symm).trans List.perm_middle))
    have hD := zz_permD (pre := []) (t1 := ([(bv, .inl (cB, tx.length, .inl f))] ++ (u8 ++ fz2))) (t2 := (u8 ++ fz)) hD (((List.Perm.append_left _ hpm.symm).trans List.perm_middle))
    refine lv_goto (tgt := 57) hx hb d_ST_substring_44 rfl ?_
    have hP9 := zz_pickP (pre := []) (fz := (u8 ++ fz)) (wc := []) hP [] rfl
    have hD9 := zz_pickD (pre := []) (fz := (u8 ++ fz)) (wc := []) hD [] (by decide) rfl
    have hK9 := hK.sub (tys' := [(cB, .byte)]) [0] rfl
    refine W.widen (k := 2) (n := 164) (Nat.le_of_ble_eq_true rfl) (Nat.le_of_ble_eq_true rfl) ?_
    exact W.aret (v := .ref y8) hx hb hr (Or.inl ⟨_, rfl⟩) (Or.inr ⟨_, rfl⟩) (fun t ht hW => ⟨⟨(some y8), u8, rfl, ⟨y8, rfl, hy8.mono (fun q hq => by rcases List.mem_append.mp hq with h | h; exact List.mem_append_left _ h; exact List.mem_append_right _ (hpm.mem_iff.mp (List.mem_cons_of_mem _ h)))⟩, ⟨by rw [ht]; exact hP9, va_K.moved hW.alike hK9, hD9⟩⟩, hS.F ht⟩) hS.2.2 d_ST_substring_57
  · have h1 : i0 = 0 := (nI_eq (by omega) (by decide)).mp h1
    refine lv_iload_n hx hb d_ST_substring_15 rfl (lv_at hl 3 rfl) ?_
    refine lv_iload_n hx hb d_ST_substring_16 rfl (lv_at hl 0 rfl) ?_
    refine lv_icmp_ne (tgt := 22) hx hb d_ST_substring_17 rfl (fun h2 => ?_) (fun h2 => ?_)
    · have h2 : ¬ i0 + n = tx.length := fun h => h2 (by rw [h])
      have hne : ¬ (i0 = 0 ∧ i0 + n = tx.length) := fun h => h2 h.2
      refine lv_iload_n hx hb d_ST_substring_22 rfl (lv_at hl 3 rfl) ?_
      refine lv_iload_n hx hb d_ST_substring_23 rfl (lv_at hl 2 rfl) ?_
      refine lv_isub hx hb d_ST_substring_24 ?_
      refine W.eq (congrArg (fun z => F0 m 25 ls (.int z :: [])) (by rw [pk_sub (a := i0 + n) (b := i0) (by omega), Nat.add_sub_cancel_left] : ((nI (i0 + n)) - (nI i0)) = nI n)) ?_
      refine lv_istore hx hb d_ST_substring_25 hl (by decide) rfl (fun ls hl => ?_)
      have hl : lv_has ls 5 [(4, .int (nI n)), (3, .int (nI tx.length)), (0, .ref a), (1, .int (nI i0)), (2, .int (nI (i0 + n)))] := hl
      refine lv_aload_n hx hb d_ST_substring_27 rfl (lv_at hl 2 rfl) ?_
      have hPc : va_P (dC, dI) vwCl [] _ := hP.sub (ws' := []) [] rfl
      have hKc := hK.sub (tys' := []) [] rfl
      refine vp_callSi (W.runV (As := []) (rest := []) ⟨hx, hb, hml, hown, htb⟩ (q_ST_isLatin1 l dC dI a v_a tx em aK aV A ) (cwV 0 htb (g_V (fun _ h => h) m_464 m_461 m_462 m_463 m_4) rfl rfl rfl (by decide +kernel) ⟨Nat.le_of_ble_eq_true rfl, Nat.le_of_ble_eq_true rfl⟩) ⟨fun a U g mk q => by obtain ⟨q0, qP, qK, z0, z1⟩ := q; exact ⟨q0, qP, va_K.moved (u := U) (U := U.calling g mk a) (Vm.Alike.refl U.vm) qK, EX.same (U := U) (U' := U.calling g mk a) rfl z0, SV.moved (Vm.Alike.refl U.vm) z1⟩, hSV_a.recv, fun U hU hW => ⟨rfl, by rw [hU]; exact hPc, va_K.moved hW.alike hKc, by rw [hU]; exact EX.warm hW (hE.kept (fun a h1 h2 => hS.2.1 a h1 h2)), by rw [hU]; exact SV.moved hW.alike hSV_a⟩⟩ rfl rfl hl.1 rfl (lv_room (Nat.le_of_ble_eq_true rfl)) d_ST_substring_28 ⟨Nat.le_of_ble_eq_true rfl, Nat.le_of_ble_eq_true rfl⟩) (fun r5 hw6 => ?_)
      have hw6 : r5 = 1 := hw6
      refine lv_if_eq (tgt := 47) hx hb d_ST_substring_31 rfl (fun h9 => absurd h9 (by rw [hw6]; decide)) (fun _ => ?_)
      obtain ⟨bv, f, hm1, hm2, hfx, hcc, hl1⟩ := htz
      refine lv_aload_n hx hb d_ST_substring_34 rfl (lv_at hl 2 rfl) ?_
      obtain ⟨qz7, hz7⟩ := List.getElem?_of_mem (List.mem_append_right [] hm1)
      refine va_get (D := (dC, dI)) (ci := 15) (v := .ref bv) (C := R_ST) (T := T_ST) (N := 4) hx hb htb in_ST hown hK hP qz7 hz7 rfl 0 (by decide) (htb _ m_323) (fun _ h9 => h9) rfl d_ST_substring_35 ?_
      refine lv_iload_n hx hb d_ST_substring_38 rfl (lv_at hl 3 rfl) ?_
      refine lv_iload hx hb d_ST_substring_39 (lv_at hl 0 rfl) ?_
      obtain ⟨fz2, hpm⟩ := perm_mem hm2
      have hP := zz_permP (pre := []) (t1 := fz) (t2 := ((bv, .inl (cB, tx.length, .inl f)) :: fz2)) hP (hpm)
      have hD := zz_permD (pre := []) (t1 := fz) (t2 := ((bv, .inl (cB, tx.length, .inl f)) :: fz2)) hD (hpm)
      have hP : va_P (dC, dI) vwCl ([(bv, .inl (cB, tx.length, .inl f))] ++ fz2) _ := hP
      have hD : va_D A ([(bv, .inl (cB, tx.length, .inl f))] ++ fz2) := hD
      have hfit : ∀ j, j < tx.length → fits .byte (.int (f j)) = true := fun j hj => by rw [hfx j hj]; exact sb_fitB _
      have hPc := zz_pickP (pre := [(bv, .inl (cB, tx.length, .inl f))]) (fz := fz2) (wc := [(bv, .inl (cB, tx.length, .inl f))]) hP [0] rfl
      have hDc := zz_pickD (pre := [(bv, .inl (cB, tx.length, .inl f))]) (fz := fz2) (wc := [(bv, .inl (cB, tx.length, .inl f))]) hD [0] (by decide) rfl
      have hFc := zz_free (pre := [(bv, .inl (cB, tx.length, .inl f))]) (fz := fz2) (wc := [(bv, .inl (cB, tx.length, .inl f))]) hD hS hA [0] rfl
      have hKc := hK.sub (tys' := [(cB, .byte)]) [0] rfl
      refine va_callq (va_runS (As := [.ref bv, .int (nI i0), .int (nI n)]) (rest := []) ⟨hx, hb, hml, hown, htb⟩ (k_LT_newString l dC dI _ bv f tx i0 n cB em aK aV fz2 hfit hfx hcc hl1 hc hne) (va_cwS 3 htb (g_S (fun _ h => h) m_652 m_650 m_651 m_16) rfl rfl rfl (by decide +kernel) ⟨Nat.le_of_ble_eq_true rfl, Nat.le_of_ble_eq_true rfl⟩) ⟨fun a U g mk q => by obtain ⟨q0, q1, qP, qK, qD, z0⟩ := q; exact ⟨q0, q1, qP, va_K.moved (u := U) (U := U.calling g mk a) (Vm.Alike.refl U.vm) qK, qD, EX.same (U := U) (U' := U.calling g mk a) rfl z0⟩, fun U hU hW => ⟨rfl, by rw [hU], by rw [hU]; exact hPc, va_K.moved hW.alike hKc, hDc.weaken (fun _ _ _ _ => trivial), by rw [hU]; exact EX.warm hW ((hE.kept (fun a h1 h2 => hS.2.1 a h1 h2)).narrow hFc)⟩⟩ rfl rfl hl.1 rfl (lv_room (Nat.le_of_ble_eq_true rfl)) d_ST_substring_41 ⟨Nat.le_of_ble_eq_true rfl, Nat.le_of_ble_eq_true rfl⟩) hS (fun q _ h => hFc q h) hFc (fun r9 u8 t H1 locs ht hvm hw10 hB hz1 hk1 hS => ?_)
      obtain ⟨hP1, hK1, hD1⟩ := hB
      rw [ht] at hP1
      have hK1 := va_K.moved hvm.symm hK1
      have hw10 : ∃ y8, r9 = some y8 ∧ TX cB aK (u8 ++ fz2) y8 ((tx.drop i0).take n) := hw10
      obtain ⟨hP, hD⟩ := zz_join (pre := [(bv, .inl (cB, tx.length, .inl f))]) (fz := fz2) (wc := [(bv, .inl (cB, tx.length, .inl f))]) (wr := []) (w1 := ([(bv, .inl (cB, tx.length, .inl f))] ++ (u8 ++ fz2))) hP hD [0] [] rfl rfl (by decide) (by decide) hk1 hFc hP1 hD1
      have hK := (hK.sub (tys' := []) [] rfl).app hK1
      generalize H1 = H at hP hS ⊢
      have hP : va_P (dC, dI) vwCl ([(bv, .inl (cB, tx.length, .inl f))] ++ (u8 ++ fz2)) H := hP
      have hD : va_D A ([(bv, .inl (cB, tx.length, .inl f))] ++ (u8 ++ fz2)) := hD
      have hK : va_K (dC, dI) vwCl [(cB, .byte)] s := hK
      refine W.widen (k := 2) (n := 164) (Nat.le_of_ble_eq_true rfl) (Nat.le_of_ble_eq_true rfl) ?_
      obtain ⟨y8, rfl, hy8⟩ := hw10
      refine W.eq (g2 := F0 m 44 ls [.ref y8]) rfl ?_
      have hP := zz_pickP (pre := [(bv, .inl (cB, tx.length, .inl f))]) (fz := (u8 ++ fz2)) (wc := [(bv, .inl (cB, tx.length, .inl f))]) hP [0] rfl
      have hD := zz_pickD (pre := [(bv, .inl (cB, tx.length, .inl f))]) (fz := (u8 ++ fz2)) (wc := [(bv, .inl (cB, tx.length, .inl f))]) hD [0] (by decide) rfl
      have hP : va_P (dC, dI) vwCl ([] ++ ([(bv, .inl (cB, tx.length, .inl f))] ++ (u8 ++ fz2))) _ := hP
      have hD : va_D A ([] ++ ([(bv, .inl (cB, tx.length, .inl f))] ++ (u8 ++ fz2))) := hD
      have hP := zz_permP (pre := []) (t1 := ([(bv, .inl (cB, tx.length, .inl f))] ++ (u8 ++ fz2))) (t2 := (u8 ++ fz)) hP (((List.Perm.append_left _ hpm.symm).trans List.perm_middle))
      have hD := zz_permD (pre := []) (t1 := ([(bv, .inl (cB, tx.length, .inl f))] ++ (u8 ++ fz2))) (t2 := (u8 ++ fz)) hD (((List.Perm.append_left _ hpm.symm).trans List.perm_middle))
      refine lv_goto (tgt := 57) hx hb d_ST_substring_44 rfl ?_
      have hP9 := zz_pickP (pre := []) (fz := (u8 ++ fz)) (wc := []) hP [] rfl
      have hD9 := zz_pickD (pre := []) (fz := (u8 ++ fz)) (wc := []) hD [] (by decide) rfl
      have hK9 := hK.sub (tys' := [(cB, .byte)]) [0] rfl
      refine W.widen (k := 2) (n := 164) (Nat.le_of_ble_eq_true rfl) (Nat.le_of_ble_eq_true rfl) ?_
      exact W.aret (v := .ref y8) hx hb hr (Or.inl ⟨_, rfl⟩) (Or.inr ⟨_, rfl⟩) (fun t ht hW => ⟨⟨(some y8), u8, rfl, ⟨y8, rfl, hy8.mono (fun q hq => by rcases List.mem_append.mp hq with h | h; exact List.mem_append_left _ h; exact List.mem_append_right _ (hpm.mem_iff.mp (List.mem_cons_of_mem _ h)))⟩, ⟨by rw [ht]; exact hP9, va_K.moved hW.alike hK9, hD9⟩⟩, hS.F ht⟩) hS.2.2 d_ST_substring_57
    · have h2 : i0 + n = tx.length := (nI_eq (by omega) (by omega)).mp h2
      refine lv_aload_n hx hb d_ST_substring_20 rfl (lv_at hl 1 rfl) ?_
      have hP9 := zz_pickP (pre := []) (fz := fz) (wc := []) hP [] rfl
      have hD9 := zz_pickD (pre := []) (fz := fz) (wc := []) hD [] (by decide) rfl
      have hK9 := hK.sub (tys' := [(cB, .byte)]) [0] rfl
      refine W.widen (k := 2) (n := 164) (Nat.le_of_ble_eq_true rfl) (Nat.le_of_ble_eq_true rfl) ?_
      exact W.aret (v := .ref a) hx hb hr (Or.inl ⟨_, rfl⟩) (Or.inr ⟨_, rfl⟩) (fun t ht hW => ⟨⟨(some a), ([] : va_W), rfl, ⟨_, rfl, by rw [h1, List.drop_zero, List.take_of_length_le (by omega)]; exact htx⟩, ⟨by rw [ht]; exact hP9, va_K.moved hW.alike hK9, hD9⟩⟩, hS.F ht⟩) hS.2.2 d_ST_substring_21
