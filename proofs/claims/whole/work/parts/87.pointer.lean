/-- the number that digits say -/
def nsum (s : List Nat) : Nat := s.foldl (fun v c => 10 * v + (c - 48)) 0
theorem nsum_snoc (s : List Nat) (c : Nat) : nsum (s ++ [c]) = 10 * nsum s + (c - 48) := by
  unfold nsum; rw [List.foldl_append]; rfl
theorem nsum_lt {s : List Nat} (hd : ∀ c ∈ s, c < 128) (hl : s.length ≤ 3) : nsum s < 100000 := by
  match s, hl with
  | [], _ => decide
  | [a], _ => have := hd a (by simp); simp [nsum]; omega
  | [a, b], _ => have := hd a (by simp); have := hd b (by simp); simp [nsum]; omega
  | [a, b, c], _ => have := hd a (by simp); have := hd b (by simp); have := hd c (by simp); simp [nsum]; omega
theorem wnum_no {s : List Nat} (h : s.length = 0 ∨ 3 < s.length ∨ (1 < s.length ∧ s.getD 0 0 = 48)) : wnum s = none := if_pos h
theorem wnum_dig {s : List Nat} (h : ¬ (s.length = 0 ∨ 3 < s.length ∨ (1 < s.length ∧ s.getD 0 0 = 48))) (hd : ∀ i, i < s.length → isDig (s.getD i 0) = true) : wnum s = some (nsum s) := by
  unfold wnum
  rw [if_neg h, if_pos]
  · rfl
  · rw [List.all_eq_true]
    intro c hc
    obtain ⟨i, hi, rfl⟩ := List.mem_iff_getElem.mp hc
    have := hd i hi
    rwa [List.getD_eq_getElem?_getD, List.getElem?_eq_getElem hi] at this
theorem wnum_nodig {s : List Nat} {i : Nat} (hi : i < s.length) (hd : isDig (s.getD i 0) = false) : wnum s = none := by
  unfold wnum
  split
  · rfl
  · rw [if_neg]
    intro h
    rw [List.all_eq_true] at h
    have := h _ (List.getElem_mem hi)
    rw [List.getD_eq_getElem?_getD, List.getElem?_eq_getElem hi] at hd
    exact absurd (this.symm.trans hd) (by decide)
theorem num_next {a c : Nat} (hc : 48 ≤ c) : nI a * 10 + nI c - 48 = nI (10 * a + (c - 48)) := by
  rw [show nI a * 10 = nI (a * 10) from pk_mul a 10, nI_add, show nI (a * 10 + c) - 48 = nI (a * 10 + c - 48) from pk_sub (a := a * 10 + c) (b := 48) (by omega)]
  congr 1
  omega
theorem wnum_lt {s : List Nat} (hc : ∀ c ∈ s, c < 128) {v : Nat} (h : wnum s = some v) : v < 100000 := by
  unfold wnum at h
  split at h
  · cases h
  · next h3 =>
    split at h
    · cases h; exact nsum_lt hc (by omega)
    · cases h
set_option maxHeartbeats 1000000 in
set_option maxRecDepth 100000 in
/-- numberIn(step) -/
theorem k_PT_numberIn (l : Launch) (dC : Nat → ClassId) (dI : Nat → Nat → Nat) (sz : Nat) (a : Nat) (sx : List Nat) (cB : ClassId) (em : Nat) (aK : Nat → Nat) (aV : Nat → Nat) (fz : va_W) (ha9 : TX cB aK fz a sx) (hcc : ∀ c ∈ sx, c < 128) : Met l y_PT_numberIn ws_PT_numberIn ({ frames := 4, cells := 0, slots := 0, locals := 85 }) (va_Pc [.ref a] (fun U => U.heap.size = sz ∧ va_P (dC, dI) vwCl ([] ++ fz) U.heap ∧ va_K (dC, dI) vwCl [(cB, .byte)] U ∧ va_D (fun _ => True) ([] ++ fz) ∧ EX em aK aV (va_A ([] ++ fz) sz) U U.heap)) (va_Qi (fun (r : Int32) (u : Unit) => r = oI (wnum sx)) (fun u t => va_P (dC, dI) vwCl ([] ++ fz) t.heap ∧ va_K (dC, dI) vwCl [(cB, .byte)] t ∧ va_D (va_A ([] ++ fz) sz) ([] ++ fz)) (va_A ([] ++ fz) sz)) 0 0 (va_A ([] ++ fz) sz) := by
  refine Met.ofW (cc := c_PT_numberIn) (maxL := 4) (ret := (some .int)) (by decide) rfl ?_
  intro p e s m args below meth c s₁ B hml hv
  obtain ⟨hargs, hsz, hP, hK, hD0, hE⟩ := hv
  rw [show entryFrame m args 4 = entryFrame m ([.ref a]).toArray 4 by rw [hargs]]
  have hx := B.exec
  have hb := B.bytes
  have hr := B.returns
  have hts := atoms_spec (ws := ws_PT_numberIn) B.pre
  have htb := fun w (h : w ∈ TBL) => hts w (List.mem_cons_of_mem _ h)
  have hown : s.vm.findClass R_PT = some m.cls := findClass_of_methodNamed B.named
  have hlocks := B.notSynchronized
  subst hsz
  have hD := hD0.self (sz := s.heap.size)
  generalize hAe : va_A ([] ++ fz) s.heap.size = A at hD hE ⊢
  have hA : ∀ q : Nat, s.heap.size ≤ q → A q := fun q h => by rw [← hAe]; exact Or.inr h
  have hS : va_S A s.heap s.heap [] := va_S.rf
  have hP : va_P (dC, dI) vwCl ([] ++ fz) s.heap := hP
  have hl := lv_entry ([.ref a]) (n := 4) (Nat.le_of_ble_eq_true rfl)
  rw [lg_entry_eq]
  generalize (lg_sl ([.ref a]) ++ List.replicate (4 - (lg_sl ([.ref a])).length) Slot.unset).toArray = ls at hl ⊢
  have hl : lv_has ls 4 [(0, .ref a)] := hl
  refine zz_nQ (fun Q hQ => ?_)
  refine lv_aload_n hx hb d_PT_numberIn_0 rfl (lv_at hl 0 rfl) ?_
  obtain ⟨v_a, hSV_a⟩ := ha9.sv htb hE (fun q h1 h2 => hS.2.1 q h1 h2) hK hP (fun q hq => List.mem_append_right _ hq) 0 rfl
  have hlt : sx.length < 65536 := hSV_a.2.2.2.2.2
  have hPc : va_P (dC, dI) vwCl [] _ := hP.sub (ws' := []) [] rfl
  have hKc := hK.sub (tys' := []) [] rfl
  refine vp_callSi (W.runV (As := []) (rest := []) ⟨hx, hb, hml, hown, htb⟩ (q_ST_length l dC dI a v_a sx em aK aV A ) (cwV 0 htb (g_V (fun _ h => h) m_452 m_623 m_450 m_451 m_4) rfl rfl rfl (by decide +kernel) ⟨Nat.le_of_ble_eq_true rfl, Nat.le_of_ble_eq_true rfl⟩) ⟨fun a U g mk q => by obtain ⟨q0, qP, qK, z0, z1⟩ := q; exact ⟨q0, qP, va_K.moved (u := U) (U := U.calling g mk a) (Vm.Alike.refl U.vm) qK, EX.same (U := U) (U' := U.calling g mk a) rfl z0, SV.moved (Vm.Alike.refl U.vm) z1⟩, hSV_a.recv, fun U hU hW => ⟨rfl, by rw [hU]; exact hPc, va_K.moved hW.alike hKc, by rw [hU]; exact EX.warm hW (hE.kept (fun a h1 h2 => hS.2.1 a h1 h2)), by rw [hU]; exact SV.moved hW.alike hSV_a⟩⟩ rfl rfl hl.1 rfl (lv_room (Nat.le_of_ble_eq_true rfl)) d_PT_numberIn_1 ⟨Nat.le_of_ble_eq_true rfl, Nat.le_of_ble_eq_true rfl⟩) (fun r1 hw2 => ?_)
  have hw2 : r1 = nI sx.length := hw2
  obtain rfl := hw2
  refine lv_istore_n hx hb d_PT_numberIn_4 rfl hl (by decide) rfl (fun ls hl => ?_)
  have hl : lv_has ls 4 [(1, .int (nI sx.length)), (0, .ref a)] := hl
  refine lv_iload_n hx hb d_PT_numberIn_5 rfl (lv_at hl 0 rfl) ?_
  refine lv_if_eq (tgt := 29) hx hb d_PT_numberIn_6 rfl (fun h1 => ?_) (fun h1 => ?_)
  · have h1 : sx.length = 0 := (nI_eq (by omega) (by decide)).mp h1
    refine lv_iconst (v := (-1)) hx hb d_PT_numberIn_29 (by decide) ?_
    have hP9 := zz_pickP (pre := []) (fz := fz) (wc := []) hP [] rfl
    have hD9 := zz_pickD (pre := []) (fz := fz) (wc := []) hD [] (by decide) rfl
    have hK9 := hK.sub (tys' := [(cB, .byte)]) [0] rfl
    rw [hQ]
    refine W.widen (k := 0) (n := 0) (Nat.le_of_ble_eq_true rfl) (Nat.le_of_ble_eq_true rfl) ?_
    exact W.iret (v := (-1)) hx hb hr (fun t ht hW => ⟨⟨(-1), (), rfl, by rw [wnum_no (Or.inl h1)]; rfl, ⟨by rw [ht]; exact hP9, va_K.moved hW.alike hK9, hD9⟩⟩, hS.F ht⟩) hS.2.2 d_PT_numberIn_30
  · have h1 : ¬ sx.length = 0 := fun h => h1 (by rw [h]; rfl)
    refine lv_iload_n hx hb d_PT_numberIn_9 rfl (lv_at hl 0 rfl) ?_
    refine lv_iconst (v := 3) hx hb d_PT_numberIn_10 (by decide) ?_
    refine lv_icmp_gt (tgt := 29) hx hb d_PT_numberIn_11 rfl (fun h2 => ?_) (fun h2 => ?_)
    · have h2 : 3 < sx.length := (nI_ltI (by decide) (by omega)).mp h2
      refine lv_iconst (v := (-1)) hx hb d_PT_numberIn_29 (by decide) ?_
      have hP9 := zz_pickP (pre := []) (fz := fz) (wc := []) hP [] rfl
      have hD9 := zz_pickD (pre := []) (fz := fz) (wc := []) hD [] (by decide) rfl
      have hK9 := hK.sub (tys' := [(cB, .byte)]) [0] rfl
      rw [hQ]
      refine W.widen (k := 0) (n := 0) (Nat.le_of_ble_eq_true rfl) (Nat.le_of_ble_eq_true rfl) ?_
      exact W.iret (v := (-1)) hx hb hr (fun t ht hW => ⟨⟨(-1), (), rfl, by rw [wnum_no (Or.inr (Or.inl h2))]; rfl, ⟨by rw [ht]; exact hP9, va_K.moved hW.alike hK9, hD9⟩⟩, hS.F ht⟩) hS.2.2 d_PT_numberIn_30
    · have h2 : ¬ 3 < sx.length := fun h => h2 ((nI_ltI (by decide) (by omega)).mpr h)
      refine lv_iload_n hx hb d_PT_numberIn_14 rfl (lv_at hl 0 rfl) ?_
      refine lv_iconst (v := 1) hx hb d_PT_numberIn_15 (by decide) ?_
      refine lv_icmp_le (tgt := 31) hx hb d_PT_numberIn_16 rfl (fun h3 => ?_) (fun h3 => ?_)
      · have h3 : sx.length ≤ 1 := (nI_leI (by omega) (by decide)).mp h3
        have hok : ¬ (sx.length = 0 ∨ 3 < sx.length ∨ (1 < sx.length ∧ sx.getD 0 0 = 48)) := fun h => by omega
        have hl3 : sx.length ≤ 3 := Nat.not_lt.mp (fun h => hok (Or.inr (Or.inl h)))
        refine lv_iconst (v := 0) hx hb d_PT_numberIn_31 (by decide) ?_
        refine lv_istore_n hx hb d_PT_numberIn_32 rfl hl (by decide) rfl (fun ls hl => ?_)
        have hl : lv_has ls 4 [(2, .int 0), (1, .int (nI sx.length)), (0, .ref a)] := hl
        refine lv_iconst (v := 0) hx hb d_PT_numberIn_33 (by decide) ?_
        refine lv_istore_n hx hb d_PT_numberIn_34 rfl hl (by decide) rfl (fun ls hl => ?_)
        have hl : lv_has ls 4 [(3, .int 0), (2, .int 0), (1, .int (nI sx.length)), (0, .ref a)] := hl
        have hloop : ∀ (k9 : Nat) (i : Nat) (H : Heap) (locs : List Loc) (ls : Array Slot), sx.length - i = k9 → (i ≤ sx.length) → (∀ q, q < i → isDig (sx.getD q 0) = true) → lv_has ls 4 [(3, .int (nI i)), (2, .int (nI (nsum (sx.take i)))), (0, .ref a), (1, .int (nI sx.length))] → va_P (dC, dI) vwCl ([] ++ fz) H → va_D A ([] ++ fz) → va_S A s.heap H locs → W p l e (headSpec ws_PT_numberIn ({ frames := 4, cells := 0, slots := 0, locals := 85 })).room s m args below meth c H locs 0 0 Q (F0 m 35 ls []) := by
          intro k9
          induction k9 using Nat.strongRecOn with
          | ind k9 ih =>
            intro i H locs ls hk9 hi1 hi2 hl hP hD hS
            refine lv_iload_n hx hb d_PT_numberIn_35 rfl (lv_at hl 0 rfl) ?_
            refine lv_iload_n hx hb d_PT_numberIn_36 rfl (lv_at hl 3 rfl) ?_
            refine lv_icmp_ge (tgt := 73) hx hb d_PT_numberIn_37 rfl (fun h7 => ?_) (fun h7 => ?_)
            · have h7 : sx.length ≤ i := (nI_leI (by omega) (by omega)).mp h7
              have htk : sx.take i = sx := List.take_of_length_le h7
              rw [htk] at hl
              have hl : lv_has ls 4 [(3, .int (nI i)), (2, .int (nI (nsum sx))), (0, .ref a), (1, .int (nI sx.length))] := hl
              refine lv_iload_n hx hb d_PT_numberIn_73 rfl (lv_at hl 1 rfl) ?_
              have hP9 := zz_pickP (pre := []) (fz := fz) (wc := []) hP [] rfl
              have hD9 := zz_pickD (pre := []) (fz := fz) (wc := []) hD [] (by decide) rfl
              have hK9 := hK.sub (tys' := [(cB, .byte)]) [0] rfl
              rw [hQ]
              refine W.widen (k := 0) (n := 0) (Nat.le_of_ble_eq_true rfl) (Nat.le_of_ble_eq_true rfl) ?_
              exact W.iret (v := (nI (nsum sx))) hx hb hr (fun t ht hW => ⟨⟨(nI (nsum sx)), (), rfl, by rw [wnum_dig hok (fun q hq => hi2 q (by omega))]; rfl, ⟨by rw [ht]; exact hP9, va_K.moved hW.alike hK9, hD9⟩⟩, hS.F ht⟩) hS.2.2 d_PT_numberIn_74
            · have h7 : i < sx.length := Nat.not_le.mp (fun h => h7 ((nI_leI (by omega) (by omega)).mpr h))
              have hci : sx.getD i 0 < 128 := by rw [List.getD_eq_getElem?_getD, List.getElem?_eq_getElem h7]; exact hcc _ (List.getElem_mem h7)
              refine lv_aload_n hx hb d_PT_numberIn_40 rfl (lv_at hl 2 rfl) ?_
              refine lv_iload_n hx hb d_PT_numberIn_41 rfl (lv_at hl 0 rfl) ?_
              obtain ⟨v_a, hSV_a⟩ := ha9.sv htb hE (fun q h1 h2 => hS.2.1 q h1 h2) hK hP (fun q hq => List.mem_append_right _ hq) 0 rfl
              have hPc : va_P (dC, dI) vwCl [] _ := hP.sub (ws' := []) [] rfl
              have hKc := hK.sub (tys' := []) [] rfl
              refine vp_callSi (W.runV (As := [.int (nI i)]) (rest := []) ⟨hx, hb, hml, hown, htb⟩ (q_ST_charAt l dC dI a v_a sx em aK aV A i h7) (cwV 1 htb (g_V (fun _ h => h) m_460 m_624 m_458 m_459 m_4) rfl rfl rfl (by decide +kernel) ⟨Nat.le_of_ble_eq_true rfl, Nat.le_of_ble_eq_true rfl⟩) ⟨fun a U g mk q => by obtain ⟨q0, qP, qK, z0, z1⟩ := q; exact ⟨q0, qP, va_K.moved (u := U) (U := U.calling g mk a) (Vm.Alike.refl U.vm) qK, EX.same (U := U) (U' := U.calling g mk a) rfl z0, SV.moved (Vm.Alike.refl U.vm) z1⟩, hSV_a.recv, fun U hU hW => ⟨rfl, by rw [hU]; exact hPc, va_K.moved hW.alike hKc, by rw [hU]; exact EX.warm hW (hE.kept (fun a h1 h2 => hS.2.1 a h1 h2)), by rw [hU]; exact SV.moved hW.alike hSV_a⟩⟩ rfl rfl hl.1 rfl (lv_room (Nat.le_of_ble_eq_true rfl)) d_PT_numberIn_42 ⟨Nat.le_of_ble_eq_true rfl, Nat.le_of_ble_eq_true rfl⟩) (fun r3 hw4 => ?_)
              have hw4 : r3 = nI (sx.getD i 0) := hw4
              obtain rfl := hw4
              have hPc : va_P (dC, dI) vwCl [] _ := hP.sub (ws' := []) [] rfl
              have hKc := hK.sub (tys' := []) [] rfl
              refine vp_callSi (va_Run.run (va_runSN (As := [.int (nI (sx.getD i 0))]) (rest := []) ⟨hx, hb, hml, hown, htb⟩ (q_PS_isDigit l dC dI (sx.getD i 0) hci) ⟨va_cnB 1 htb (g_all (fun _ h => h) m_427) rfl rfl rfl (nw_3 hE) (htb _ m_1) (by decide +kernel) ⟨Nat.le_of_ble_eq_true rfl, Nat.le_of_ble_eq_true rfl⟩, (htb _ m_426), trivial⟩ ⟨fun a U g mk q => by obtain ⟨q0, qP, qK⟩ := q; exact ⟨q0, qP, va_K.moved (u := U) (U := U.calling g mk a) (Vm.Alike.refl U.vm) qK⟩, fun U hU hW => ⟨rfl, by rw [hU]; exact hPc, va_K.moved hW.alike hKc⟩⟩ rfl rfl hl.1 rfl (lv_room (Nat.le_of_ble_eq_true rfl)) d_PT_numberIn_45 ⟨Nat.le_of_ble_eq_true rfl, Nat.le_of_ble_eq_true rfl⟩)) (fun r5 hw6 => ?_)
              have hw6 : r5 = bI (isDig (sx.getD i 0)) := hw6
              refine lv_if_ne (tgt := 53) hx hb d_PT_numberIn_48 rfl (fun h8 => ?_) (fun h8 => ?_)
              · have hdg : isDig (sx.getD i 0) = true := bI_ne.mp (show ¬ bI (isDig (sx.getD i 0)) = 0 from hw6 ▸ h8)
                have hd2 := isDig_iff.mp hdg
                refine lv_iload_n hx hb d_PT_numberIn_53 rfl (lv_at hl 1 rfl) ?_
                refine lv_bipush (v := 10) hx hb d_PT_numberIn_54 (by decide) ?_
                refine lv_imul hx hb d_PT_numberIn_56 ?_
                refine lv_aload_n hx hb d_PT_numberIn_57 rfl (lv_at hl 2 rfl) ?_
                refine lv_iload_n hx hb d_PT_numberIn_58 rfl (lv_at hl 0 rfl) ?_
                obtain ⟨v_a, hSV_a⟩ := ha9.sv htb hE (fun q h1 h2 => hS.2.1 q h1 h2) hK hP (fun q hq => List.mem_append_right _ hq) 0 rfl
                have hPc : va_P (dC, dI) vwCl [] _ := hP.sub (ws' := []) [] rfl
                have hKc := hK.sub (tys' := []) [] rfl
                refine vp_callSi (W.runV (As := [.int (nI i)]) (rest := [.int ((nI (nsum (sx.take i))) * 10)]) ⟨hx, hb, hml, hown, htb⟩ (q_ST_charAt l dC dI a v_a sx em aK aV A i h7) (cwV 1 htb (g_V (fun _ h => h) m_460 m_624 m_458 m_459 m_4) rfl rfl rfl (by decide +kernel) ⟨Nat.le_of_ble_eq_true rfl, Nat.le_of_ble_eq_true rfl⟩) ⟨fun a U g mk q => by obtain ⟨q0, qP, qK, z0, z1⟩ := q; exact ⟨q0, qP, va_K.moved (u := U) (U := U.calling g mk a) (Vm.Alike.refl U.vm) qK, EX.same (U := U) (U' := U.calling g mk a) rfl z0, SV.moved (Vm.Alike.refl U.vm) z1⟩, hSV_a.recv, fun U hU hW => ⟨rfl, by rw [hU]; exact hPc, va_K.moved hW.alike hKc, by rw [hU]; exact EX.warm hW (hE.kept (fun a h1 h2 => hS.2.1 a h1 h2)), by rw [hU]; exact SV.moved hW.alike hSV_a⟩⟩ rfl rfl hl.1 rfl (lv_room (Nat.le_of_ble_eq_true rfl)) d_PT_numberIn_59 ⟨Nat.le_of_ble_eq_true rfl, Nat.le_of_ble_eq_true rfl⟩) (fun r7 hw8 => ?_)
                have hw8 : r7 = nI (sx.getD i 0) := hw8
                obtain rfl := hw8
                refine lv_iadd hx hb d_PT_numberIn_62 ?_
                refine lv_bipush (v := 48) hx hb d_PT_numberIn_63 (by decide) ?_
                refine lv_isub hx hb d_PT_numberIn_65 ?_
                refine W.eq (congrArg (fun z => F0 m 66 ls (.int z :: [])) (num_next hd2.1 : ((((nI (nsum (sx.take i))) * 10) + (nI (sx.getD i 0))) - 48) = nI (10 * nsum (sx.take i) + (sx.getD i 0 - 48)))) ?_
                refine lv_istore_n hx hb d_PT_numberIn_66 rfl hl (by decide) rfl (fun ls hl => ?_)
                have hl : lv_has ls 4 [(2, .int (nI (10 * nsum (sx.take i) + (sx.getD i 0 - 48)))), (3, .int (nI i)), (0, .ref a), (1, .int (nI sx.length))] := hl
                refine lv_iinc (k := 1) (v := ((nI i) + Int32.ofInt 1)) hx hb d_PT_numberIn_67 hl rfl rfl (by decide) rfl (fun ls hl => ?_)
                have hl : lv_has ls 4 [(3, .int ((nI i) + Int32.ofInt 1)), (2, .int (nI (10 * nsum (sx.take i) + (sx.getD i 0 - 48)))), (0, .ref a), (1, .int (nI sx.length))] := hl
                rw [show nI i + Int32.ofInt 1 = nI (i + 1) from nI_1 _, show 10 * nsum (sx.take i) + (sx.getD i 0 - 48) = nsum (sx.take (i + 1)) by rw [take_step 0 h7, nsum_snoc]] at hl
                have hl : lv_has ls 4 [(3, .int (nI (i + 1))), (2, .int (nI (nsum (sx.take (i + 1))))), (0, .ref a), (1, .int (nI sx.length))] := hl
                refine lv_goto (tgt := 35) hx hb d_PT_numberIn_70 rfl ?_
                exact ih (sx.length - (i + 1)) (by omega) (i + 1) H locs ls rfl (h7) (fun q hq => by rcases Nat.lt_succ_iff_lt_or_eq.mp hq with h | rfl; exact hi2 q h; exact hdg) (lv_sub hl [0, 1, 2, 3] rfl) (zz_pickP (pre := []) (fz := fz) (wc := []) hP [] rfl) (zz_pickD (pre := []) (fz := fz) (wc := []) hD [] (by decide) rfl) hS
              · have hdg : isDig (sx.getD i 0) = false := bI_eq.mp (show bI (isDig (sx.getD i 0)) = 0 from hw6 ▸ h8)
                refine lv_iconst (v := (-1)) hx hb d_PT_numberIn_51 (by decide) ?_
                have hP9 := zz_pickP (pre := []) (fz := fz) (wc := []) hP [] rfl
                have hD9 := zz_pickD (pre := []) (fz := fz) (wc := []) hD [] (by decide) rfl
                have hK9 := hK.sub (tys' := [(cB, .byte)]) [0] rfl
                rw [hQ]
                refine W.widen (k := 0) (n := 0) (Nat.le_of_ble_eq_true rfl) (Nat.le_of_ble_eq_true rfl) ?_
                exact W.iret (v := (-1)) hx hb hr (fun t ht hW => ⟨⟨(-1), (), rfl, by rw [wnum_nodig h7 hdg]; rfl, ⟨by rw [ht]; exact hP9, va_K.moved hW.alike hK9, hD9⟩⟩, hS.F ht⟩) hS.2.2 d_PT_numberIn_52
        exact hloop _ 0 _ _ ls rfl (Nat.zero_le _) (fun q hq => absurd hq (Nat.not_lt_zero _)) (lv_sub hl [0, 1, 3, 2] rfl) (zz_pickP (pre := []) (fz := fz) (wc := []) hP [] rfl) (zz_pickD (pre := []) (fz := fz) (wc := []) hD [] (by decide) rfl) hS
      · have h3 : 1 < sx.length := Nat.not_le.mp (fun h => h3 ((nI_leI (by omega) (by decide)).mpr h))
        have hc0 : sx.getD 0 0 < 128 := by rw [List.getD_eq_getElem?_getD, List.getElem?_eq_getElem (by omega)]; exact hcc _ (List.getElem_mem _)
        refine lv_aload_n hx hb d_PT_numberIn_19 rfl (lv_at hl 1 rfl) ?_
        refine lv_iconst (v := 0) hx hb d_PT_numberIn_20 (by decide) ?_
        refine W.eq (congrArg (fun z => F0 m 21 ls (.int z :: [.ref a])) (rfl : (0 : Int32) = nI 0)) ?_
        have hPc : va_P (dC, dI) vwCl [] _ := hP.sub (ws' := []) [] rfl
        have hKc := hK.sub (tys' := []) [] rfl
        refine vp_callSi (W.runV (As := [.int (nI 0)]) (rest := []) ⟨hx, hb, hml, hown, htb⟩ (q_ST_charAt l dC dI a v_a sx em aK aV A 0 (by omega)) (cwV 1 htb (g_V (fun _ h => h) m_460 m_624 m_458 m_459 m_4) rfl rfl rfl (by decide +kernel) ⟨Nat.le_of_ble_eq_true rfl, Nat.le_of_ble_eq_true rfl⟩) ⟨fun a U g mk q => by obtain ⟨q0, qP, qK, z0, z1⟩ := q; exact ⟨q0, qP, va_K.moved (u := U) (U := U.calling g mk a) (Vm.Alike.refl U.vm) qK, EX.same (U := U) (U' := U.calling g mk a) rfl z0, SV.moved (Vm.Alike.refl U.vm) z1⟩, hSV_a.recv, fun U hU hW => ⟨rfl, by rw [hU]; exact hPc, va_K.moved hW.alike hKc, by rw [hU]; exact EX.warm hW (hE.kept (fun a h1 h2 => hS.2.1 a h1 h2)), by rw [hU]; exact SV.moved hW.alike hSV_a⟩⟩ rfl rfl hl.1 rfl (lv_room (Nat.le_of_ble_eq_true rfl)) d_PT_numberIn_21 ⟨Nat.le_of_ble_eq_true rfl, Nat.le_of_ble_eq_true rfl⟩) (fun r3 hw4 => ?_)
        have hw4 : r3 = nI (sx.getD 0 0) := hw4
        obtain rfl := hw4
        refine lv_bipush (v := 48) hx hb d_PT_numberIn_24 (by decide) ?_
        refine lv_icmp_ne (tgt := 31) hx hb d_PT_numberIn_26 rfl (fun h4 => ?_) (fun h4 => ?_)
        · have h4 : ¬ sx.getD 0 0 = 48 := fun h => h4 (by rw [h]; rfl)
          have hok : ¬ (sx.length = 0 ∨ 3 < sx.length ∨ (1 < sx.length ∧ sx.getD 0 0 = 48)) := fun h => by omega
          have hl3 : sx.length ≤ 3 := Nat.not_lt.mp (fun h => hok (Or.inr (Or.inl h)))
          refine lv_iconst (v := 0) hx hb d_PT_numberIn_31 (by decide) ?_
          refine lv_istore_n hx hb d_PT_numberIn_32 rfl hl (by decide) rfl (fun ls hl => ?_)
          have hl : lv_has ls 4 [(2, .int 0), (1, .int (nI sx.length)), (0, .ref a)] := hl
          refine lv_iconst (v := 0) hx hb d_PT_numberIn_33 (by decide) ?_
          refine lv_istore_n hx hb d_PT_numberIn_34 rfl hl (by decide) rfl (fun ls hl => ?_)
          have hl : lv_has ls 4 [(3, .int 0), (2, .int 0), (1, .int (nI sx.length)), (0, .ref a)] := hl
          have hloop : ∀ (k9 : Nat) (i : Nat) (H : Heap) (locs : List Loc) (ls : Array Slot), sx.length - i = k9 → (i ≤ sx.length) → (∀ q, q < i → isDig (sx.getD q 0) = true) → lv_has ls 4 [(3, .int (nI i)), (2, .int (nI (nsum (sx.take i)))), (0, .ref a), (1, .int (nI sx.length))] → va_P (dC, dI) vwCl ([] ++ fz) H → va_D A ([] ++ fz) → va_S A s.heap H locs → W p l e (headSpec ws_PT_numberIn ({ frames := 4, cells := 0, slots := 0, locals := 85 })).room s m args below meth c H locs 0 0 Q (F0 m 35 ls []) := by
            intro k9
            induction k9 using Nat.strongRecOn with
            | ind k9 ih =>
              intro i H locs ls hk9 hi1 hi2 hl hP hD hS
              refine lv_iload_n hx hb d_PT_numberIn_35 rfl (lv_at hl 0 rfl) ?_
              refine lv_iload_n hx hb d_PT_numberIn_36 rfl (lv_at hl 3 rfl) ?_
              refine lv_icmp_ge (tgt := 73) hx hb d_PT_numberIn_37 rfl (fun h7 => ?_) (fun h7 => ?_)
              · have h7 : sx.length ≤ i := (nI_leI (by omega) (by omega)).mp h7
                have htk : sx.take i = sx := List.take_of_length_le h7
                rw [htk] at hl
                have hl : lv_has ls 4 [(3, .int (nI i)), (2, .int (nI (nsum sx))), (0, .ref a), (1, .int (nI sx.length))] := hl
                refine lv_iload_n hx hb d_PT_numberIn_73 rfl (lv_at hl 1 rfl) ?_
                have hP9 := zz_pickP (pre := []) (fz := fz) (wc := []) hP [] rfl
                have hD9 := zz_pickD (pre := []) (fz := fz) (wc := []) hD [] (by decide) rfl
                have hK9 := hK.sub (tys' := [(cB, .byte)]) [0] rfl
                rw [hQ]
                refine W.widen (k := 0) (n := 0) (Nat.le_of_ble_eq_true rfl) (Nat.le_of_ble_eq_true rfl) ?_
                exact W.iret (v := (nI (nsum sx))) hx hb hr (fun t ht hW => ⟨⟨(nI (nsum sx)), (), rfl, by rw [wnum_dig hok (fun q hq => hi2 q (by omega))]; rfl, ⟨by rw [ht]; exact hP9, va_K.moved hW.alike hK9, hD9⟩⟩, hS.F ht⟩) hS.2.2 d_PT_numberIn_74
              · have h7 : i < sx.length := Nat.not_le.mp (fun h => h7 ((nI_leI (by omega) (by omega)).mpr h))
                have hci : sx.getD i 0 < 128 := by rw [List.getD_eq_getElem?_getD, List.getElem?_eq_getElem h7]; exact hcc _ (List.getElem_mem h7)
                refine lv_aload_n hx hb d_PT_numberIn_40 rfl (lv_at hl 2 rfl) ?_
                refine lv_iload_n hx hb d_PT_numberIn_41 rfl (lv_at hl 0 rfl) ?_
                obtain ⟨v_a, hSV_a⟩ := ha9.sv htb hE (fun q h1 h2 => hS.2.1 q h1 h2) hK hP (fun q hq => List.mem_append_right _ hq) 0 rfl
                have hPc : va_P (dC, dI) vwCl [] _ := hP.sub (ws' := []) [] rfl
                have hKc := hK.sub (tys' := []) [] rfl
                refine vp_callSi (W.runV (As := [.int (nI i)]) (rest := []) ⟨hx, hb, hml, hown, htb⟩ (q_ST_charAt l dC dI a v_a sx em aK aV A i h7) (cwV 1 htb (g_V (fun _ h => h) m_460 m_624 m_458 m_459 m_4) rfl rfl rfl (by decide +kernel) ⟨Nat.le_of_ble_eq_true rfl, Nat.le_of_ble_eq_true rfl⟩) ⟨fun a U g mk q => by obtain ⟨q0, qP, qK, z0, z1⟩ := q; exact ⟨q0, qP, va_K.moved (u := U) (U := U.calling g mk a) (Vm.Alike.refl U.vm) qK, EX.same (U := U) (U' := U.calling g mk a) rfl z0, SV.moved (Vm.Alike.refl U.vm) z1⟩, hSV_a.recv, fun U hU hW => ⟨rfl, by rw [hU]; exact hPc, va_K.moved hW.alike hKc, by rw [hU]; exact EX.warm hW (hE.kept (fun a h1 h2 => hS.2.1 a h1 h2)), by rw [hU]; exact SV.moved hW.alike hSV_a⟩⟩ rfl rfl hl.1 rfl (lv_room (Nat.le_of_ble_eq_true rfl)) d_PT_numberIn_42 ⟨Nat.le_of_ble_eq_true rfl, Nat.le_of_ble_eq_true rfl⟩) (fun r5 hw6 => ?_)
                have hw6 : r5 = nI (sx.getD i 0) := hw6
                obtain rfl := hw6
                have hPc : va_P (dC, dI) vwCl [] _ := hP.sub (ws' := []) [] rfl
                have hKc := hK.sub (tys' := []) [] rfl
                refine vp_callSi (va_Run.run (va_runSN (As := [.int (nI (sx.getD i 0))]) (rest := []) ⟨hx, hb, hml, hown, htb⟩ (q_PS_isDigit l dC dI (sx.getD i 0) hci) ⟨va_cnB 1 htb (g_all (fun _ h => h) m_427) rfl rfl rfl (nw_3 hE) (htb _ m_1) (by decide +kernel) ⟨Nat.le_of_ble_eq_true rfl, Nat.le_of_ble_eq_true rfl⟩, (htb _ m_426), trivial⟩ ⟨fun a U g mk q => by obtain ⟨q0, qP, qK⟩ := q; exact ⟨q0, qP, va_K.moved (u := U) (U := U.calling g mk a) (Vm.Alike.refl U.vm) qK⟩, fun U hU hW => ⟨rfl, by rw [hU]; exact hPc, va_K.moved hW.alike hKc⟩⟩ rfl rfl hl.1 rfl (lv_room (Nat.le_of_ble_eq_true rfl)) d_PT_numberIn_45 ⟨Nat.le_of_ble_eq_true rfl, Nat.le_of_ble_eq_true rfl⟩)) (fun r7 hw8 => ?_)
                have hw8 : r7 = bI (isDig (sx.getD i 0)) := hw8
                refine lv_if_ne (tgt := 53) hx hb d_PT_numberIn_48 rfl (fun h8 => ?_) (fun h8 => ?_)
                · have hdg : isDig (sx.getD i 0) = true := bI_ne.mp (show ¬ bI (isDig (sx.getD i 0)) = 0 from hw8 ▸ h8)
                  have hd2 := isDig_iff.mp hdg
                  refine lv_iload_n hx hb d_PT_numberIn_53 rfl (lv_at hl 1 rfl) ?_
                  refine lv_bipush (v := 10) hx hb d_PT_numberIn_54 (by decide) ?_
                  refine lv_imul hx hb d_PT_numberIn_56 ?_
                  refine lv_aload_n hx hb d_PT_numberIn_57 rfl (lv_at hl 2 rfl) ?_
                  refine lv_iload_n hx hb d_PT_numberIn_58 rfl (lv_at hl 0 rfl) ?_
                  obtain ⟨v_a, hSV_a⟩ := ha9.sv htb hE (fun q h1 h2 => hS.2.1 q h1 h2) hK hP (fun q hq => List.mem_append_right _ hq) 0 rfl
                  have hPc : va_P (dC, dI) vwCl [] _ := hP.sub (ws' := []) [] rfl
                  have hKc := hK.sub (tys' := []) [] rfl
                  refine vp_callSi (W.runV (As := [.int (nI i)]) (rest := [.int ((nI (nsum (sx.take i))) * 10)]) ⟨hx, hb, hml, hown, htb⟩ (q_ST_charAt l dC dI a v_a sx em aK aV A i h7) (cwV 1 htb (g_V (fun _ h => h) m_460 m_624 m_458 m_459 m_4) rfl rfl rfl (by decide +kernel) ⟨Nat.le_of_ble_eq_true rfl, Nat.le_of_ble_eq_true rfl⟩) ⟨fun a U g mk q => by obtain ⟨q0, qP, qK, z0, z1⟩ := q; exact ⟨q0, qP, va_K.moved (u := U) (U := U.calling g mk a) (Vm.Alike.refl U.vm) qK, EX.same (U := U) (U' := U.calling g mk a) rfl z0, SV.moved (Vm.Alike.refl U.vm) z1⟩, hSV_a.recv, fun U hU hW => ⟨rfl, by rw [hU]; exact hPc, va_K.moved hW.alike hKc, by rw [hU]; exact EX.warm hW (hE.kept (fun a h1 h2 => hS.2.1 a h1 h2)), by rw [hU]; exact SV.moved hW.alike hSV_a⟩⟩ rfl rfl hl.1 rfl (lv_room (Nat.le_of_ble_eq_true rfl)) d_PT_numberIn_59 ⟨Nat.le_of_ble_eq_true rfl, Nat.le_of_ble_eq_true rfl⟩) (fun r9 hw10 => ?_)
                  have hw10 : r9 = nI (sx.getD i 0) := hw10
                  obtain rfl := hw10
                  refine lv_iadd hx hb d_PT_numberIn_62 ?_
                  refine lv_bipush (v := 48) hx hb d_PT_numberIn_63 (by decide) ?_
                  refine lv_isub hx hb d_PT_numberIn_65 ?_
                  refine W.eq (congrArg (fun z => F0 m 66 ls (.int z :: [])) (num_next hd2.1 : ((((nI (nsum (sx.take i))) * 10) + (nI (sx.getD i 0))) - 48) = nI (10 * nsum (sx.take i) + (sx.getD i 0 - 48)))) ?_
                  refine lv_istore_n hx hb d_PT_numberIn_66 rfl hl (by decide) rfl (fun ls hl => ?_)
                  have hl : lv_has ls 4 [(2, .int (nI (10 * nsum (sx.take i) + (sx.getD i 0 - 48)))), (3, .int (nI i)), (0, .ref a), (1, .int (nI sx.length))] := hl
                  refine lv_iinc (k := 1) (v := ((nI i) + Int32.ofInt 1)) hx hb d_PT_numberIn_67 hl rfl rfl (by decide) rfl (fun ls hl => ?_)
                  have hl : lv_has ls 4 [(3, .int ((nI i) + Int32.ofInt 1)), (2, .int (nI (10 * nsum (sx.take i) + (sx.getD i 0 - 48)))), (0, .ref a), (1, .int (nI sx.length))] := hl
                  rw [show nI i + Int32.ofInt 1 = nI (i + 1) from nI_1 _, show 10 * nsum (sx.take i) + (sx.getD i 0 - 48) = nsum (sx.take (i + 1)) by rw [take_step 0 h7, nsum_snoc]] at hl
                  have hl : lv_has ls 4 [(3, .int (nI (i + 1))), (2, .int (nI (nsum (sx.take (i + 1))))), (0, .ref a), (1, .int (nI sx.length))] := hl
                  refine lv_goto (tgt := 35) hx hb d_PT_numberIn_70 rfl ?_
                  exact ih (sx.length - (i + 1)) (by omega) (i + 1) H locs ls rfl (h7) (fun q hq => by rcases Nat.lt_succ_iff_lt_or_eq.mp hq with h | rfl; exact hi2 q h; exact hdg) (lv_sub hl [0, 1, 2, 3] rfl) (zz_pickP (pre := []) (fz := fz) (wc := []) hP [] rfl) (zz_pickD (pre := []) (fz := fz) (wc := []) hD [] (by decide) rfl) hS
                · have hdg : isDig (sx.getD i 0) = false := bI_eq.mp (show bI (isDig (sx.getD i 0)) = 0 from hw8 ▸ h8)
                  refine lv_iconst (v := (-1)) hx hb d_PT_numberIn_51 (by decide) ?_
                  have hP9 := zz_pickP (pre := []) (fz := fz) (wc := []) hP [] rfl
                  have hD9 := zz_pickD (pre := []) (fz := fz) (wc := []) hD [] (by decide) rfl
                  have hK9 := hK.sub (tys' := [(cB, .byte)]) [0] rfl
                  rw [hQ]
                  refine W.widen (k := 0) (n := 0) (Nat.le_of_ble_eq_true rfl) (Nat.le_of_ble_eq_true rfl) ?_
                  exact W.iret (v := (-1)) hx hb hr (fun t ht hW => ⟨⟨(-1), (), rfl, by rw [wnum_nodig h7 hdg]; rfl, ⟨by rw [ht]; exact hP9, va_K.moved hW.alike hK9, hD9⟩⟩, hS.F ht⟩) hS.2.2 d_PT_numberIn_52
          exact hloop _ 0 _ _ ls rfl (Nat.zero_le _) (fun q hq => absurd hq (Nat.not_lt_zero _)) (lv_sub hl [0, 1, 3, 2] rfl) (zz_pickP (pre := []) (fz := fz) (wc := []) hP [] rfl) (zz_pickD (pre := []) (fz := fz) (wc := []) hD [] (by decide) rfl) hS
        · have h4 : sx.getD 0 0 = 48 := (nI_eq (by omega) (by decide)).mp h4
          refine lv_iconst (v := (-1)) hx hb d_PT_numberIn_29 (by decide) ?_
          have hP9 := zz_pickP (pre := []) (fz := fz) (wc := []) hP [] rfl
          have hD9 := zz_pickD (pre := []) (fz := fz) (wc := []) hD [] (by decide) rfl
          have hK9 := hK.sub (tys' := [(cB, .byte)]) [0] rfl
          rw [hQ]
          refine W.widen (k := 0) (n := 0) (Nat.le_of_ble_eq_true rfl) (Nat.le_of_ble_eq_true rfl) ?_
          exact W.iret (v := (-1)) hx hb hr (fun t ht hW => ⟨⟨(-1), (), rfl, by rw [wnum_no (Or.inr (Or.inr ⟨h3, h4⟩))]; rfl, ⟨by rw [ht]; exact hP9, va_K.moved hW.alike hK9, hD9⟩⟩, hS.F ht⟩) hS.2.2 d_PT_numberIn_30
