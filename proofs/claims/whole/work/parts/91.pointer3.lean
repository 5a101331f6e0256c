theorem dcd_cons {c : Nat} {R : List Nat} (h : ¬ c = 126) : dcd (c :: R) = (dcd R).map (fun q => c :: q) := by
  cases R with
  | nil =>
    show dcd [c] = some [c]
    rw [dcd, if_neg h]
  | cons d R => rw [dcd, if_neg h]
theorem dcd_0 {R : List Nat} : dcd (126 :: 48 :: R) = (dcd R).map (fun q => 126 :: q) := by rw [dcd, if_pos rfl, if_pos rfl]
theorem dcd_1 {R : List Nat} : dcd (126 :: 49 :: R) = (dcd R).map (fun q => 47 :: q) := by rw [dcd, if_pos rfl, if_neg (by decide), if_pos rfl]
theorem dcd_bad {d : Nat} {R : List Nat} (h0 : ¬ d = 48) (h1 : ¬ d = 49) : dcd (126 :: d :: R) = none := by rw [dcd, if_pos rfl, if_neg h0, if_neg h1]
theorem dcd_plain : ∀ {s : List Nat}, 126 ∉ s → dcd s = some s
  | [], _ => rfl
  | c :: s, h => by
    rw [dcd_cons (fun e => h (by rw [e]; exact List.mem_cons_self)), dcd_plain (fun hm => h (List.mem_cons_of_mem _ hm))]
    rfl
set_option maxHeartbeats 1000000 in
set_option maxRecDepth 100000 in
/-- decoded(step, builder) -/
theorem k_PT_decoded (l : Launch) (dC : Nat → ClassId) (dI : Nat → Nat → Nat) (sz : Nat) (a : Nat) (sx : List Nat) (sb : Nat) (bv : Nat) (ml : Int32) (cB : ClassId) (g : Nat → Int32) (cap : Nat) (tx : List Nat) (em : Nat) (aK : Nat → Nat) (aV : Nat → Nat) (fz : va_W) (hax : TX cB aK fz a sx) (hB : Bld tx cap g) (hl1 : sx.length ≤ 160) : Met l y_PT_decoded ws_PT_decoded ({ frames := 6, cells := (2 + sx.length), slots := (164 + 286 * sx.length), locals := 151 }) (va_Pc [.ref a, .ref sb] (fun U => U.heap.size = sz ∧ va_P (dC, dI) vwCl ([(sb, .inr (13, [.ref bv, .int 0, .int ml, .int (nI tx.length)])), (bv, .inl (cB, cap, .inl g))] ++ fz) U.heap ∧ va_K (dC, dI) vwCl [(cB, .byte)] U ∧ va_D (fun _ => True) ([(sb, .inr (13, [.ref bv, .int 0, .int ml, .int (nI tx.length)])), (bv, .inl (cB, cap, .inl g))] ++ fz) ∧ EX em aK aV (va_A ([(sb, .inr (13, [.ref bv, .int 0, .int ml, .int (nI tx.length)])), (bv, .inl (cB, cap, .inl g))] ++ fz) sz) U U.heap)) (va_Qq (fun (r : Option Nat) (u : Int32 × List Nat × Nat × (Nat → Int32) × va_W) => Bld u.2.1 u.2.2.1 u.2.2.2.1 ∧ ((r = none ∧ dcd sx = none) ∨ ∃ y8 q8, r = some y8 ∧ dcd sx = some q8 ∧ TX cB aK (u.2.2.2.2 ++ fz) y8 q8)) (fun u t => ∃ (bv9 : Nat), va_P (dC, dI) vwCl ([(sb, .inr (13, [.ref bv9, .int 0, .int u.1, .int (nI u.2.1.length)])), (bv9, .inl (cB, u.2.2.1, .inl u.2.2.2.1))] ++ (u.2.2.2.2 ++ fz)) t.heap ∧ va_K (dC, dI) vwCl [(cB, .byte)] t ∧ va_D (va_A ([(sb, .inr (13, [.ref bv, .int 0, .int ml, .int (nI tx.length)])), (bv, .inl (cB, cap, .inl g))] ++ fz) sz) ([(sb, .inr (13, [.ref bv9, .int 0, .int u.1, .int (nI u.2.1.length)])), (bv9, .inl (cB, u.2.2.1, .inl u.2.2.2.1))] ++ (u.2.2.2.2 ++ fz))) (va_A ([(sb, .inr (13, [.ref bv, .int 0, .int ml, .int (nI tx.length)])), (bv, .inl (cB, cap, .inl g))] ++ fz) sz)) (2 + sx.length) (164 + 286 * sx.length) (va_A ([(sb, .inr (13, [.ref bv, .int 0, .int ml, .int (nI tx.length)])), (bv, .inl (cB, cap, .inl g))] ++ fz) sz) := by
  refine Met.ofW (cc := c_PT_decoded) (maxL := 5) (ret := (some (.object "java/lang/String"))) (by decide) rfl ?_
  intro p e s m args below meth c s₁ B hml hv
  obtain ⟨hargs, hsz, hP, hK, hD0, hE⟩ := hv
  rw [show entryFrame m args 5 = entryFrame m ([.ref a, .ref sb]).toArray 5 by rw [hargs]]
  have hx := B.exec
  have hb := B.bytes
  have hr := B.returns
  have hts := atoms_spec (ws := ws_PT_decoded) B.pre
  have htb := fun w (h : w ∈ TBL) => hts w (List.mem_cons_of_mem _ h)
  have hown : s.vm.findClass R_PT = some m.cls := findClass_of_methodNamed B.named
  have hlocks := B.notSynchronized
  subst hsz
  have hD := hD0.self (sz := s.heap.size)
  generalize hAe : va_A ([(sb, .inr (13, [.ref bv, .int 0, .int ml, .int (nI tx.length)])), (bv, .inl (cB, cap, .inl g))] ++ fz) s.heap.size = A at hD hE ⊢
  have hA : ∀ q : Nat, s.heap.size ≤ q → A q := fun q h => by rw [← hAe]; exact Or.inr h
  have hS : va_S A s.heap s.heap [] := va_S.rf
  have hP : va_P (dC, dI) vwCl ([(sb, .inr (13, [.ref bv, .int 0, .int ml, .int (nI tx.length)])), (bv, .inl (cB, cap, .inl g))] ++ fz) s.heap := hP
  have hl := lv_entry ([.ref a, .ref sb]) (n := 5) (Nat.le_of_ble_eq_true rfl)
  rw [lg_entry_eq]
  generalize (lg_sl ([.ref a, .ref sb]) ++ List.replicate (5 - (lg_sl ([.ref a, .ref sb])).length) Slot.unset).toArray = ls at hl ⊢
  have hl : lv_has ls 5 [(0, .ref a), (1, .ref sb)] := hl
  refine zz_nQ (fun Q hQ => ?_)
  refine lv_aload_n hx hb d_PT_decoded_0 rfl (lv_at hl 0 rfl) ?_
  refine lv_bipush (v := 126) hx hb d_PT_decoded_1 (by decide) ?_
  obtain ⟨v_a, hSV_a⟩ := hax.sv htb hE (fun q h1 h2 => hS.2.1 q h1 h2) hK hP (fun q hq => List.mem_append_right _ hq) 0 rfl
  have hcc : ∀ c ∈ sx, c < 128 := hSV_a.2.2.2.2.1
  refine W.eq (congrArg (fun z => F0 m 3 ls (.int z :: [.ref a])) (rfl : (126 : Int32) = nI 126)) ?_
  have hPc : va_P (dC, dI) vwCl [] _ := hP.sub (ws' := []) [] rfl
  have hKc := hK.sub (tys' := []) [] rfl
  refine vp_callSi (W.runV (As := [.int (nI 126)]) (rest := []) ⟨hx, hb, hml, hown, htb⟩ (q_ST_indexOf l dC dI a v_a sx em aK aV A 126 (by decide)) (cwV 1 htb (g_V (fun _ h => h) m_674 m_671 m_672 m_673 m_4) rfl rfl rfl (by decide +kernel) ⟨Nat.le_of_ble_eq_true rfl, Nat.le_of_ble_eq_true rfl⟩) ⟨fun a U g mk q => by obtain ⟨q0, qP, qK, z0, z1⟩ := q; exact ⟨q0, qP, va_K.moved (u := U) (U := U.calling g mk a) (Vm.Alike.refl U.vm) qK, EX.same (U := U) (U' := U.calling g mk a) rfl z0, SV.moved (Vm.Alike.refl U.vm) z1⟩, hSV_a.recv, fun U hU hW => ⟨rfl, by rw [hU]; exact hPc, va_K.moved hW.alike hKc, by rw [hU]; exact EX.warm hW (hE.kept (fun a h1 h2 => hS.2.1 a h1 h2)), by rw [hU]; exact SV.moved hW.alike hSV_a⟩⟩ rfl rfl hl.1 rfl (lv_room (Nat.le_of_ble_eq_true rfl)) d_PT_decoded_3 ⟨(by show 0 ≤ (2 + sx.length); omega), (by show 0 ≤ (164 + 286 * sx.length); omega)⟩) (fun r1 hw2 => ?_)
  have hw2 : (r1 < 0 ∧ 126 ∉ sx) ∨ (¬ r1 < 0 ∧ 126 ∈ sx) := hw2
  refine lv_if_ge (tgt := 11) hx hb d_PT_decoded_6 rfl (fun h1 => ?_) (fun h1 => ?_)
  · have h1 : ¬ r1 < 0 := Int32.not_lt.mpr h1
    refine lv_aload_n hx hb d_PT_decoded_11 rfl (lv_at hl 1 rfl) ?_
    refine lv_iconst (v := 0) hx hb d_PT_decoded_12 (by decide) ?_
    have hPc := hP.sub (ws' := [(sb, .inr (13, [.ref bv, .int 0, .int ml, .int (nI tx.length)])), (bv, .inl (cB, cap, .inl g))]) [0, 1] rfl
    have hDc := hD.sub (ws' := [(sb, .inr (13, [.ref bv, .int 0, .int ml, .int (nI tx.length)])), (bv, .inl (cB, cap, .inl g))]) [0, 1] (by decide) rfl
    have hFc := va_free (wc := [(sb, .inr (13, [.ref bv, .int 0, .int ml, .int (nI tx.length)])), (bv, .inl (cB, cap, .inl g))]) hD hS hA [0, 1] rfl
    have hKc := hK.sub (tys' := [(cB, .byte)]) [0] rfl
    refine va_callv (va_runV (As := [.int 0]) (rest := []) ⟨hx, hb, hml, hown, htb⟩ (k_SB_setLength0 l dC dI _ sb bv ml tx.length cB g cap hB.2.1 hB.cap) (cwV 1 htb (g_V (fun _ h => h) m_196 m_720 m_194 m_195 m_3) rfl rfl rfl (by decide +kernel) ⟨Nat.le_of_ble_eq_true rfl, Nat.le_of_ble_eq_true rfl⟩) ⟨fun a U g mk q => by obtain ⟨q0, q1, qP, qK, qD⟩ := q; exact ⟨q0, q1, qP, va_K.moved (u := U) (U := U.calling g mk a) (Vm.Alike.refl U.vm) qK, qD⟩, va_recv hK hP (ci := 13) rfl (q0 := 0) rfl, fun U hU hW => ⟨rfl, by rw [hU], by rw [hU]; exact hPc, va_K.moved hW.alike hKc, hDc.weaken (fun _ _ _ _ => trivial)⟩⟩ rfl rfl hl.1 rfl (lv_room (Nat.le_of_ble_eq_true rfl)) d_PT_decoded_13 ⟨(by show 0 ≤ (2 + sx.length); omega), (by show 0 ≤ (164 + 286 * sx.length); omega)⟩) hS (fun q _ h => hFc q h) hFc (fun u3 t H1 locs ht hvm hw5 hB hz1 hk1 hS => ?_)
    obtain ⟨hP1, hK1, hD1⟩ := hB
    rw [ht] at hP1
    have hK1 := va_K.moved hvm.symm hK1
    have hw5 : True := hw5
    obtain ⟨hP, hD⟩ := zz_joinN (pre := [(sb, .inr (13, [.ref bv, .int 0, .int ml, .int (nI tx.length)])), (bv, .inl (cB, cap, .inl g))]) (fz := fz) (wc := [(sb, .inr (13, [.ref bv, .int 0, .int ml, .int (nI tx.length)])), (bv, .inl (cB, cap, .inl g))]) (wr := []) (w1 := [(sb, .inr (13, [.ref bv, .int 0, .int u3, .int 0])), (bv, .inl (cB, cap, .inl g))]) hP hD [0, 1] [] rfl rfl (by decide) (by decide) hk1 hFc hP1 hD1
    have hK := (hK.sub (tys' := []) [] rfl).app hK1
    generalize H1 = H at hP hS ⊢
    have hP : va_P (dC, dI) vwCl ([(sb, .inr (13, [.ref bv, .int 0, .int u3, .int 0])), (bv, .inl (cB, cap, .inl g))] ++ fz) H := hP
    have hD : va_D A ([(sb, .inr (13, [.ref bv, .int 0, .int u3, .int 0])), (bv, .inl (cB, cap, .inl g))] ++ fz) := hD
    have hK : va_K (dC, dI) vwCl [(cB, .byte)] s := hK
    refine lv_iconst (v := 0) hx hb d_PT_decoded_16 (by decide) ?_
    refine lv_istore_n hx hb d_PT_decoded_17 rfl hl (by decide) rfl (fun ls hl => ?_)
    have hl : lv_has ls 5 [(2, .int 0), (0, .ref a), (1, .ref sb)] := hl
    have hloop : ∀ (k9 : Nat) (b : Nat) (bv1 : Nat) (ml1 : Int32) (cap1 : Nat) (g1 : Nat → Int32) (tx1 : List Nat) (H : Heap) (locs : List Loc) (ls : Array Slot), sx.length - b = k9 → (b ≤ sx.length) → (Bld tx1 cap1 g1) → (dcd sx = (dcd (sx.drop b)).map (fun q => tx1 ++ q)) → (tx1.length ≤ b) → lv_has ls 5 [(2, .int (nI b)), (0, .ref a), (1, .ref sb)] → va_P (dC, dI) vwCl ([(sb, .inr (13, [.ref bv1, .int 0, .int ml1, .int (nI tx1.length)])), (bv1, .inl (cB, cap1, .inl g1))] ++ fz) H → va_D A ([(sb, .inr (13, [.ref bv1, .int 0, .int ml1, .int (nI tx1.length)])), (bv1, .inl (cB, cap1, .inl g1))] ++ fz) → va_S A s.heap H locs → W p l e (headSpec ws_PT_decoded ({ frames := 6, cells := (2 + sx.length), slots := (164 + 286 * sx.length), locals := 151 })).room s m args below meth c H locs (b) (286 * b) Q (F0 m 18 ls []) := by
      intro k9
      induction k9 using Nat.strongRecOn with
      | ind k9 ih =>
        intro b bv1 ml1 cap1 g1 tx1 H locs ls hk9 hi1 hiB hi2 hi3 hl hP hD hS
        refine lv_iload_n hx hb d_PT_decoded_18 rfl (lv_at hl 0 rfl) ?_
        refine lv_aload_n hx hb d_PT_decoded_19 rfl (lv_at hl 1 rfl) ?_
        obtain ⟨v_a, hSV_a⟩ := hax.sv htb hE (fun q h1 h2 => hS.2.1 q h1 h2) hK hP (fun q hq => List.mem_append_right _ hq) 0 rfl
        have hPc : va_P (dC, dI) vwCl [] _ := hP.sub (ws' := []) [] rfl
        have hKc := hK.sub (tys' := []) [] rfl
        refine vp_callSi (W.runV (As := []) (rest := [.int (nI b)]) ⟨hx, hb, hml, hown, htb⟩ (q_ST_length l dC dI a v_a sx em aK aV A ) (cwV 0 htb (g_V (fun _ h => h) m_452 m_623 m_450 m_451 m_4) rfl rfl rfl (by decide +kernel) ⟨Nat.le_of_ble_eq_true rfl, Nat.le_of_ble_eq_true rfl⟩) ⟨fun a U g mk q => by obtain ⟨q0, qP, qK, z0, z1⟩ := q; exact ⟨q0, qP, va_K.moved (u := U) (U := U.calling g mk a) (Vm.Alike.refl U.vm) qK, EX.same (U := U) (U' := U.calling g mk a) rfl z0, SV.moved (Vm.Alike.refl U.vm) z1⟩, hSV_a.recv, fun U hU hW => ⟨rfl, by rw [hU]; exact hPc, va_K.moved hW.alike hKc, by rw [hU]; exact EX.warm hW (hE.kept (fun a h1 h2 => hS.2.1 a h1 h2)), by rw [hU]; exact SV.moved hW.alike hSV_a⟩⟩ rfl rfl hl.1 rfl (lv_room (Nat.le_of_ble_eq_true rfl)) d_PT_decoded_20 ⟨(by show (b) ≤ (2 + sx.length); omega), (by show (286 * b) ≤ (164 + 286 * sx.length); omega)⟩) (fun r7 hw8 => ?_)
        have hw8 : r7 = nI sx.length := hw8
        obtain rfl := hw8
        refine lv_icmp_ge (tgt := 103) hx hb d_PT_decoded_23 rfl (fun h2 => ?_) (fun h2 => ?_)
        · have h2 : sx.length ≤ b := (nI_leI (by omega) (by omega)).mp h2
          have hds : dcd sx = some tx1 := by rw [hi2, List.drop_eq_nil_of_le h2]; show some (tx1 ++ []) = _; rw [List.append_nil]
          refine lv_aload_n hx hb d_PT_decoded_103 rfl (lv_at hl 2 rfl) ?_
          have hPc := hP.sub (ws' := [(sb, .inr (13, [.ref bv1, .int 0, .int ml1, .int (nI tx1.length)])), (bv1, .inl (cB, cap1, .inl g1))]) [0, 1] rfl
          have hDc := hD.sub (ws' := [(sb, .inr (13, [.ref bv1, .int 0, .int ml1, .int (nI tx1.length)])), (bv1, .inl (cB, cap1, .inl g1))]) [0, 1] (by decide) rfl
          have hFc := va_free (wc := [(sb, .inr (13, [.ref bv1, .int 0, .int ml1, .int (nI tx1.length)])), (bv1, .inl (cB, cap1, .inl g1))]) hD hS hA [0, 1] rfl
          have hKc := hK.sub (tys' := [(cB, .byte)]) [0] rfl
          refine va_callr (va_runV (As := []) (rest := []) ⟨hx, hb, hml, hown, htb⟩ (k_SB_toString l dC dI _ sb bv1 ml1 tx1.length cB g1 cap1 em aK aV hiB.2.2.2.1 (by omega) hiB.2.1 hiB.cap) (cwV 0 htb (g_V (fun _ h => h) m_256 m_722 m_254 m_255 m_3) rfl rfl rfl (by decide +kernel) ⟨Nat.le_of_ble_eq_true rfl, Nat.le_of_ble_eq_true rfl⟩) ⟨fun a U g mk q => by obtain ⟨q0, q1, qP, qK, qD, z0⟩ := q; exact ⟨q0, q1, qP, va_K.moved (u := U) (U := U.calling g mk a) (Vm.Alike.refl U.vm) qK, qD, EX.same (U := U) (U' := U.calling g mk a) rfl z0⟩, va_recv hK hP (ci := 13) rfl (q0 := 0) rfl, fun U hU hW => ⟨rfl, by rw [hU], by rw [hU]; exact hPc, va_K.moved hW.alike hKc, hDc.weaken (fun _ _ _ _ => trivial), by rw [hU]; exact EX.warm hW ((hE.kept (fun a h1 h2 => hS.2.1 a h1 h2)).narrow hFc)⟩⟩ rfl rfl hl.1 rfl (lv_room (Nat.le_of_ble_eq_true rfl)) d_PT_decoded_104 ⟨(by show ((b) + 2) ≤ (2 + sx.length); omega), (by show ((286 * b) + 164) ≤ (164 + 286 * sx.length); omega)⟩) hS (fun q _ h => hFc q h) hFc (fun u9 ra12 t H1 locs ht hvm hw11 hB hz1 hk1 hS => ?_)
          obtain ⟨x13, hP1, hK1, hD1⟩ := hB
          rw [ht] at hP1
          have hK1 := va_K.moved hvm.symm hK1
          have hw11 : ∀ i, i < tx1.length → u9 i = g1 i := hw11
          obtain ⟨hP, hD⟩ := zz_joinN (pre := [(sb, .inr (13, [.ref bv1, .int 0, .int ml1, .int (nI tx1.length)])), (bv1, .inl (cB, cap1, .inl g1))]) (fz := fz) (wc := [(sb, .inr (13, [.ref bv1, .int 0, .int ml1, .int (nI tx1.length)])), (bv1, .inl (cB, cap1, .inl g1))]) (wr := []) (w1 := [(sb, .inr (13, [.ref bv1, .int 0, .int ml1, .int (nI tx1.length)])), (bv1, .inl (cB, cap1, .inl g1)), (ra12, .inr (15, [.ref x13, .int 0, .int 0, .int 0])), (x13, .inl (cB, tx1.length, .inl u9))]) hP hD [0, 1] [] rfl rfl (by decide) (by decide) hk1 hFc hP1 hD1
          have hK := (hK.sub (tys' := []) [] rfl).app hK1
          generalize H1 = H at hP hS ⊢
          have hP : va_P (dC, dI) vwCl ([(sb, .inr (13, [.ref bv1, .int 0, .int ml1, .int (nI tx1.length)])), (bv1, .inl (cB, cap1, .inl g1)), (ra12, .inr (15, [.ref x13, .int 0, .int 0, .int 0])), (x13, .inl (cB, tx1.length, .inl u9))] ++ fz) H := hP
          have hD : va_D A ([(sb, .inr (13, [.ref bv1, .int 0, .int ml1, .int (nI tx1.length)])), (bv1, .inl (cB, cap1, .inl g1)), (ra12, .inr (15, [.ref x13, .int 0, .int 0, .int 0])), (x13, .inl (cB, tx1.length, .inl u9))] ++ fz) := hD
          have hK : va_K (dC, dI) vwCl [(cB, .byte)] s := hK
          have hP9 := zz_pickP (pre := [(sb, .inr (13, [.ref bv1, .int 0, .int ml1, .int (nI tx1.length)])), (bv1, .inl (cB, cap1, .inl g1)), (ra12, .inr (15, [.ref x13, .int 0, .int 0, .int 0])), (x13, .inl (cB, tx1.length, .inl u9))]) (fz := fz) (wc := [(sb, .inr (13, [.ref bv1, .int 0, .int ml1, .int (nI tx1.length)])), (bv1, .inl (cB, cap1, .inl g1)), (ra12, .inr (15, [.ref x13, .int 0, .int 0, .int 0])), (x13, .inl (cB, tx1.length, .inl u9))]) hP [0, 1, 2, 3] rfl
          have hD9 := zz_pickD (pre := [(sb, .inr (13, [.ref bv1, .int 0, .int ml1, .int (nI tx1.length)])), (bv1, .inl (cB, cap1, .inl g1)), (ra12, .inr (15, [.ref x13, .int 0, .int 0, .int 0])), (x13, .inl (cB, tx1.length, .inl u9))]) (fz := fz) (wc := [(sb, .inr (13, [.ref bv1, .int 0, .int ml1, .int (nI tx1.length)])), (bv1, .inl (cB, cap1, .inl g1)), (ra12, .inr (15, [.ref x13, .int 0, .int 0, .int 0])), (x13, .inl (cB, tx1.length, .inl u9))]) hD [0, 1, 2, 3] (by decide) rfl
          have hK9 := hK.sub (tys' := [(cB, .byte)]) [0] rfl
          rw [hQ]
          refine W.widen (k := (2 + sx.length)) (n := (164 + 286 * sx.length)) ((by show ((b) + 2) ≤ (2 + sx.length); omega)) ((by show ((286 * b) + 164) ≤ (164 + 286 * sx.length); omega)) ?_
          exact W.aret (v := .ref ra12) hx hb hr (Or.inl ⟨_, rfl⟩) (Or.inr ⟨_, rfl⟩) (fun t ht hW => ⟨⟨(some ra12), (ml1, tx1, cap1, g1, [(ra12, .inr (15, [.ref x13, .int 0, .int 0, .int 0])), (x13, .inl (cB, tx1.length, .inl u9))]), rfl, ⟨hiB, Or.inr ⟨_, _, rfl, hds, Or.inl ⟨x13, u9, List.mem_cons_self, List.mem_cons_of_mem _ List.mem_cons_self, fun i hi => by rw [hw11 i hi, hiB.2.2.1 i hi], hiB.2.2.2.2, by omega⟩⟩⟩, ⟨bv1, by rw [ht]; exact hP9, va_K.moved hW.alike hK9, hD9⟩⟩, hS.F ht⟩) hS.2.2 d_PT_decoded_107
        · have h2 : b < sx.length := Nat.not_le.mp (fun h => h2 ((nI_leI (by omega) (by omega)).mpr h))
          have hcb : sx.getD b 0 < 128 := by rw [List.getD_eq_getElem?_getD, List.getElem?_eq_getElem h2]; exact hcc _ (List.getElem_mem h2)
          refine lv_aload_n hx hb d_PT_decoded_26 rfl (lv_at hl 1 rfl) ?_
          refine lv_iload_n hx hb d_PT_decoded_27 rfl (lv_at hl 0 rfl) ?_
          obtain ⟨v_a, hSV_a⟩ := hax.sv htb hE (fun q h1 h2 => hS.2.1 q h1 h2) hK hP (fun q hq => List.mem_append_right _ hq) 0 rfl
          have hPc : va_P (dC, dI) vwCl [] _ := hP.sub (ws' := []) [] rfl
          have hKc := hK.sub (tys' := []) [] rfl
          refine vp_callSi (W.runV (As := [.int (nI b)]) (rest := []) ⟨hx, hb, hml, hown, htb⟩ (q_ST_charAt l dC dI a v_a sx em aK aV A b h2) (cwV 1 htb (g_V (fun _ h => h) m_460 m_624 m_458 m_459 m_4) rfl rfl rfl (by decide +kernel) ⟨Nat.le_of_ble_eq_true rfl, Nat.le_of_ble_eq_true rfl⟩) ⟨fun a U g mk q => by obtain ⟨q0, qP, qK, z0, z1⟩ := q; exact ⟨q0, qP, va_K.moved (u := U) (U := U.calling g mk a) (Vm.Alike.refl U.vm) qK, EX.same (U := U) (U' := U.calling g mk a) rfl z0, SV.moved (Vm.Alike.refl U.vm) z1⟩, hSV_a.recv, fun U hU hW => ⟨rfl, by rw [hU]; exact hPc, va_K.moved hW.alike hKc, by rw [hU]; exact EX.warm hW (hE.kept (fun a h1 h2 => hS.2.1 a h1 h2)), by rw [hU]; exact SV.moved hW.alike hSV_a⟩⟩ rfl rfl hl.1 rfl (lv_room (Nat.le_of_ble_eq_true rfl)) d_PT_decoded_28 ⟨(by show (b) ≤ (2 + sx.length); omega), (by show (286 * b) ≤ (164 + 286 * sx.length); omega)⟩) (fun r9 hw10 => ?_)
          have hw10 : r9 = nI (sx.getD b 0) := hw10
          obtain rfl := hw10
          refine lv_istore_n hx hb d_PT_decoded_31 rfl hl (by decide) rfl (fun ls hl => ?_)
          have hl : lv_has ls 5 [(3, .int (nI (sx.getD b 0))), (2, .int (nI b)), (0, .ref a), (1, .ref sb)] := hl
          refine lv_iload_n hx hb d_PT_decoded_32 rfl (lv_at hl 0 rfl) ?_
          refine lv_bipush (v := 126) hx hb d_PT_decoded_33 (by decide) ?_
          refine lv_icmp_ne (tgt := 91) hx hb d_PT_decoded_35 rfl (fun h3 => ?_) (fun h3 => ?_)
          · have h3 : ¬ sx.getD b 0 = 126 := fun h => h3 (by rw [h]; rfl)
            refine lv_aload_n hx hb d_PT_decoded_91 rfl (lv_at hl 3 rfl) ?_
            refine lv_iload_n hx hb d_PT_decoded_92 rfl (lv_at hl 0 rfl) ?_
            have hPc := hP.sub (ws' := [(sb, .inr (13, [.ref bv1, .int 0, .int ml1, .int (nI tx1.length)])), (bv1, .inl (cB, cap1, .inl g1))]) [0, 1] rfl
            have hDc := hD.sub (ws' := [(sb, .inr (13, [.ref bv1, .int 0, .int ml1, .int (nI tx1.length)])), (bv1, .inl (cB, cap1, .inl g1))]) [0, 1] (by decide) rfl
            have hFc := va_free (wc := [(sb, .inr (13, [.ref bv1, .int 0, .int ml1, .int (nI tx1.length)])), (bv1, .inl (cB, cap1, .inl g1))]) hD hS hA [0, 1] rfl
            have hKc := hK.sub (tys' := [(cB, .byte)]) [0] rfl
            refine va_callr (va_runV (As := [.int (nI (sx.getD b 0))]) (rest := []) ⟨hx, hb, hml, hown, htb⟩ (k_SB_append l dC dI _ sb bv1 ml1 cB g1 cap1 tx1 (sx.getD b 0) em aK aV hiB hcb (by omega)) (cwV 1 htb (g_V (fun _ h => h) m_337 m_721 m_335 m_336 m_3) rfl rfl rfl (by decide +kernel) ⟨Nat.le_of_ble_eq_true rfl, Nat.le_of_ble_eq_true rfl⟩) ⟨fun a U g mk q => by obtain ⟨q0, q1, qP, qK, qD, z0⟩ := q; exact ⟨q0, q1, qP, va_K.moved (u := U) (U := U.calling g mk a) (Vm.Alike.refl U.vm) qK, qD, EX.same (U := U) (U' := U.calling g mk a) rfl z0⟩, va_recv hK hP (ci := 13) rfl (q0 := 0) rfl, fun U hU hW => ⟨rfl, by rw [hU], by rw [hU]; exact hPc, va_K.moved hW.alike hKc, hDc.weaken (fun _ _ _ _ => trivial), by rw [hU]; exact EX.warm hW ((hE.kept (fun a h1 h2 => hS.2.1 a h1 h2)).narrow hFc)⟩⟩ rfl rfl hl.1 rfl (lv_room (Nat.le_of_ble_eq_true rfl)) d_PT_decoded_93 ⟨(by show ((b) + 1) ≤ (2 + sx.length); omega), (by show ((286 * b) + 286) ≤ (164 + 286 * sx.length); omega)⟩) hS (fun q _ h => hFc q h) hFc (fun u11 ra14 t H1 locs ht hvm hw13 hB hz1 hk1 hS => ?_)
            obtain ⟨x15, hP1, hK1, hD1⟩ := hB
            rw [ht] at hP1
            have hK1 := va_K.moved hvm.symm hK1
            obtain ⟨w16, w17⟩ := u11
            have hw13 : Bld (tx1 ++ [(sx.getD b 0)]) w16 w17 := hw13
            obtain ⟨hP, hD⟩ := zz_joinN (pre := [(sb, .inr (13, [.ref bv1, .int 0, .int ml1, .int (nI tx1.length)])), (bv1, .inl (cB, cap1, .inl g1))]) (fz := fz) (wc := [(sb, .inr (13, [.ref bv1, .int 0, .int ml1, .int (nI tx1.length)])), (bv1, .inl (cB, cap1, .inl g1))]) (wr := []) (w1 := [(sb, .inr (13, [.ref x15, .int 0, .int ml1, .int (nI (tx1 ++ [(sx.getD b 0)]).length)])), (x15, .inl (cB, w16, .inl w17))]) hP hD [0, 1] [] rfl rfl (by decide) (by decide) hk1 hFc hP1 hD1
            have hK := (hK.sub (tys' := []) [] rfl).app hK1
            generalize H1 = H at hP hS ⊢
            have hP : va_P (dC, dI) vwCl ([(sb, .inr (13, [.ref x15, .int 0, .int ml1, .int (nI (tx1 ++ [(sx.getD b 0)]).length)])), (x15, .inl (cB, w16, .inl w17))] ++ fz) H := hP
            have hD : va_D A ([(sb, .inr (13, [.ref x15, .int 0, .int ml1, .int (nI (tx1 ++ [(sx.getD b 0)]).length)])), (x15, .inl (cB, w16, .inl w17))] ++ fz) := hD
            have hK : va_K (dC, dI) vwCl [(cB, .byte)] s := hK
            refine lv_pop hx hb d_PT_decoded_96 rfl ?_
            refine lv_iinc (k := 1) (v := ((nI b) + Int32.ofInt 1)) hx hb d_PT_decoded_97 hl rfl rfl (by decide) rfl (fun ls hl => ?_)
            have hl : lv_has ls 5 [(2, .int ((nI b) + Int32.ofInt 1)), (3, .int (nI (sx.getD b 0))), (0, .ref a), (1, .ref sb)] := hl
            rw [show nI (b) + Int32.ofInt 1 = nI (b + 1) from nI_1 _] at hl
            refine lv_goto (tgt := 18) hx hb d_PT_decoded_100 rfl ?_
            refine W.widen (k := ((b + 1))) (n := (286 * (b + 1))) (by omega) (by omega) ?_
            exact ih (sx.length - (b + 1)) (by omega) (b + 1) x15 ml1 w16 w17 (tx1 ++ [sx.getD b 0]) H locs ls rfl (by omega) (hw13) (by rw [hi2, drop_cons h2, dcd_cons h3, Option.map_map]; congr 1; funext q; simp) (by simp; omega) (lv_sub hl [0, 2, 3] rfl) (zz_pickP (pre := [(sb, .inr (13, [.ref x15, .int 0, .int ml1, .int (nI (tx1 ++ [(sx.getD b 0)]).length)])), (x15, .inl (cB, w16, .inl w17))]) (fz := fz) (wc := [(sb, .inr (13, [.ref x15, .int 0, .int ml1, .int (nI (tx1 ++ [sx.getD b 0]).length)])), (x15, .inl (cB, w16, .inl w17))]) hP [0, 1] rfl) (zz_pickD (pre := [(sb, .inr (13, [.ref x15, .int 0, .int ml1, .int (nI (tx1 ++ [(sx.getD b 0)]).length)])), (x15, .inl (cB, w16, .inl w17))]) (fz := fz) (wc := [(sb, .inr (13, [.ref x15, .int 0, .int ml1, .int (nI (tx1 ++ [sx.getD b 0]).length)])), (x15, .inl (cB, w16, .inl w17))]) hD [0, 1] (by decide) rfl) hS
          · have h3 : sx.getD b 0 = 126 := (nI_eq (by omega) (by decide)).mp h3
            refine lv_iinc (k := 1) (v := ((nI b) + Int32.ofInt 1)) hx hb d_PT_decoded_38 hl rfl rfl (by decide) rfl (fun ls hl => ?_)
            have hl : lv_has ls 5 [(2, .int ((nI b) + Int32.ofInt 1)), (3, .int (nI (sx.getD b 0))), (0, .ref a), (1, .ref sb)] := hl
            rw [show nI b + Int32.ofInt 1 = nI (b + 1) from nI_1 _] at hl
            refine lv_iload_n hx hb d_PT_decoded_41 rfl (lv_at hl 0 rfl) ?_
            refine lv_aload_n hx hb d_PT_decoded_42 rfl (lv_at hl 2 rfl) ?_
            obtain ⟨v_a, hSV_a⟩ := hax.sv htb hE (fun q h1 h2 => hS.2.1 q h1 h2) hK hP (fun q hq => List.mem_append_right _ hq) 0 rfl
            have hPc : va_P (dC, dI) vwCl [] _ := hP.sub (ws' := []) [] rfl
            have hKc := hK.sub (tys' := []) [] rfl
            refine vp_callSi (W.runV (As := []) (rest := [.int (nI (b + 1))]) ⟨hx, hb, hml, hown, htb⟩ (q_ST_length l dC dI a v_a sx em aK aV A ) (cwV 0 htb (g_V (fun _ h => h) m_452 m_623 m_450 m_451 m_4) rfl rfl rfl (by decide +kernel) ⟨Nat.le_of_ble_eq_true rfl, Nat.le_of_ble_eq_true rfl⟩) ⟨fun a U g mk q => by obtain ⟨q0, qP, qK, z0, z1⟩ := q; exact ⟨q0, qP, va_K.moved (u := U) (U := U.calling g mk a) (Vm.Alike.refl U.vm) qK, EX.same (U := U) (U' := U.calling g mk a) rfl z0, SV.moved (Vm.Alike.refl U.vm) z1⟩, hSV_a.recv, fun U hU hW => ⟨rfl, by rw [hU]; exact hPc, va_K.moved hW.alike hKc, by rw [hU]; exact EX.warm hW (hE.kept (fun a h1 h2 => hS.2.1 a h1 h2)), by rw [hU]; exact SV.moved hW.alike hSV_a⟩⟩ rfl rfl hl.1 rfl (lv_room (Nat.le_of_ble_eq_true rfl)) d_PT_decoded_43 ⟨(by show (b) ≤ (2 + sx.length); omega), (by show (286 * b) ≤ (164 + 286 * sx.length); omega)⟩) (fun r11 hw12 => ?_)
            have hw12 : r11 = nI sx.length := hw12
            obtain rfl := hw12
            refine lv_icmp_ge (tgt := 57) hx hb d_PT_decoded_46 rfl (fun h4 => ?_) (fun h4 => ?_)
            · have h4 : sx.length ≤ b + 1 := (nI_leI (by omega) (by omega)).mp h4
              refine lv_iconst (v := 0) hx hb d_PT_decoded_57 (by decide) ?_
              refine lv_istore hx hb d_PT_decoded_58 hl (by decide) rfl (fun ls hl => ?_)
              have hl : lv_has ls 5 [(4, .int 0), (2, .int (nI (b + 1))), (3, .int (nI (sx.getD b 0))), (0, .ref a), (1, .ref sb)] := hl
              refine lv_iload hx hb d_PT_decoded_60 (lv_at hl 0 rfl) ?_
              refine lv_bipush (v := 48) hx hb d_PT_decoded_62 (by decide) ?_
              refine lv_icmp_eq (tgt := 76) hx hb d_PT_decoded_64 rfl (fun h9 => absurd h9 (by decide)) (fun _ => ?_)
              refine lv_iload hx hb d_PT_decoded_67 (lv_at hl 0 rfl) ?_
              refine lv_bipush (v := 49) hx hb d_PT_decoded_69 (by decide) ?_
              refine lv_icmp_eq (tgt := 76) hx hb d_PT_decoded_71 rfl (fun h9 => absurd h9 (by decide)) (fun _ => ?_)
              refine lv_null hx hb d_PT_decoded_74 ?_
              have hP9 := zz_pickP (pre := [(sb, .inr (13, [.ref bv1, .int 0, .int ml1, .int (nI tx1.length)])), (bv1, .inl (cB, cap1, .inl g1))]) (fz := fz) (wc := [(sb, .inr (13, [.ref bv1, .int 0, .int ml1, .int (nI tx1.length)])), (bv1, .inl (cB, cap1, .inl g1))]) hP [0, 1] rfl
              have hD9 := zz_pickD (pre := [(sb, .inr (13, [.ref bv1, .int 0, .int ml1, .int (nI tx1.length)])), (bv1, .inl (cB, cap1, .inl g1))]) (fz := fz) (wc := [(sb, .inr (13, [.ref bv1, .int 0, .int ml1, .int (nI tx1.length)])), (bv1, .inl (cB, cap1, .inl g1))]) hD [0, 1] (by decide) rfl
              have hK9 := hK.sub (tys' := [(cB, .byte)]) [0] rfl
              rw [hQ]
              refine W.widen (k := (2 + sx.length)) (n := (164 + 286 * sx.length)) ((by show (b) ≤ (2 + sx.length); omega)) ((by show (286 * b) ≤ (164 + 286 * sx.length); omega)) ?_
              exact W.aret (v := .null) hx hb hr (Or.inl ⟨_, rfl⟩) (Or.inl rfl) (fun t ht hW => ⟨⟨none, (ml1, tx1, cap1, g1, []), rfl, ⟨hiB, Or.inl ⟨rfl, by rw [hi2, drop_cons h2, h3, List.drop_eq_nil_of_le h4]; rfl⟩⟩, ⟨bv1, by rw [ht]; exact hP9, va_K.moved hW.alike hK9, hD9⟩⟩, hS.F ht⟩) hS.2.2 d_PT_decoded_75
            · have h4 : b + 1 < sx.length := Nat.not_le.mp (fun h => h4 ((nI_leI (by omega) (by omega)).mpr h))
              have hcb2 : sx.getD (b + 1) 0 < 128 := by rw [List.getD_eq_getElem?_getD, List.getElem?_eq_getElem h4]; exact hcc _ (List.getElem_mem h4)
              refine lv_aload_n hx hb d_PT_decoded_49 rfl (lv_at hl 2 rfl) ?_
              refine lv_iload_n hx hb d_PT_decoded_50 rfl (lv_at hl 0 rfl) ?_
              obtain ⟨v_a, hSV_a⟩ := hax.sv htb hE (fun q h1 h2 => hS.2.1 q h1 h2) hK hP (fun q hq => List.mem_append_right _ hq) 0 rfl
              have hPc : va_P (dC, dI) vwCl [] _ := hP.sub (ws' := []) [] rfl
              have hKc := hK.sub (tys' := []) [] rfl
              refine vp_callSi (W.runV (As := [.int (nI (b + 1))]) (rest := []) ⟨hx, hb, hml, hown, htb⟩ (q_ST_charAt l dC dI a v_a sx em aK aV A (b + 1) h4) (cwV 1 htb (g_V (fun _ h => h) m_460 m_624 m_458 m_459 m_4) rfl rfl rfl (by decide +kernel) ⟨Nat.le_of_ble_eq_true rfl, Nat.le_of_ble_eq_true rfl⟩) ⟨fun a U g mk q => by obtain ⟨q0, qP, qK, z0, z1⟩ := q; exact ⟨q0, qP, va_K.moved (u := U) (U := U.calling g mk a) (Vm.Alike.refl U.vm) qK, EX.same (U := U) (U' := U.calling g mk a) rfl z0, SV.moved (Vm.Alike.refl U.vm) z1⟩, hSV_a.recv, fun U hU hW => ⟨rfl, by rw [hU]; exact hPc, va_K.moved hW.alike hKc, by rw [hU]; exact EX.warm hW (hE.kept (fun a h1 h2 => hS.2.1 a h1 h2)), by rw [hU]; exact SV.moved hW.alike hSV_a⟩⟩ rfl rfl hl.1 rfl (lv_room (Nat.le_of_ble_eq_true rfl)) d_PT_decoded_51 ⟨(by show (b) ≤ (2 + sx.length); omega), (by show (286 * b) ≤ (164 + 286 * sx.length); omega)⟩) (fun r13 hw14 => ?_)
              have hw14 : r13 = nI (sx.getD (b + 1) 0) := hw14
              obtain rfl := hw14
              refine lv_goto (tgt := 58) hx hb d_PT_decoded_54 rfl ?_
              refine lv_istore hx hb d_PT_decoded_58 hl (by decide) rfl (fun ls hl => ?_)
              have hl : lv_has ls 5 [(4, .int (nI (sx.getD (b + 1) 0))), (2, .int (nI (b + 1))), (3, .int (nI (sx.getD b 0))), (0, .ref a), (1, .ref sb)] := hl
              refine lv_iload hx hb d_PT_decoded_60 (lv_at hl 0 rfl) ?_
              refine lv_bipush (v := 48) hx hb d_PT_decoded_62 (by decide) ?_
              refine lv_icmp_eq (tgt := 76) hx hb d_PT_decoded_64 rfl (fun h5 => ?_) (fun h5 => ?_)
              · have h5 : sx.getD (b + 1) 0 = 48 := (nI_eq (by omega) (by decide)).mp h5
                refine lv_iload hx hb d_PT_decoded_76 (lv_at hl 0 rfl) ?_
                refine lv_bipush (v := 48) hx hb d_PT_decoded_78 (by decide) ?_
                refine lv_icmp_ne (tgt := 88) hx hb d_PT_decoded_80 rfl (fun h9 => absurd (by rw [h5]; rfl) h9) (fun _ => ?_)
                refine lv_bipush (v := 126) hx hb d_PT_decoded_83 (by decide) ?_
                refine lv_goto (tgt := 90) hx hb d_PT_decoded_85 rfl ?_
                refine lv_istore_n hx hb d_PT_decoded_90 rfl hl (by decide) rfl (fun ls hl => ?_)
                have hl : lv_has ls 5 [(3, .int 126), (4, .int (nI (sx.getD (b + 1) 0))), (2, .int (nI (b + 1))), (0, .ref a), (1, .ref sb)] := hl
                refine lv_aload_n hx hb d_PT_decoded_91 rfl (lv_at hl 4 rfl) ?_
                refine lv_iload_n hx hb d_PT_decoded_92 rfl (lv_at hl 0 rfl) ?_
                have hPc := hP.sub (ws' := [(sb, .inr (13, [.ref bv1, .int 0, .int ml1, .int (nI tx1.length)])), (bv1, .inl (cB, cap1, .inl g1))]) [0, 1] rfl
                have hDc := hD.sub (ws' := [(sb, .inr (13, [.ref bv1, .int 0, .int ml1, .int (nI tx1.length)])), (bv1, .inl (cB, cap1, .inl g1))]) [0, 1] (by decide) rfl
                have hFc := va_free (wc := [(sb, .inr (13, [.ref bv1, .int 0, .int ml1, .int (nI tx1.length)])), (bv1, .inl (cB, cap1, .inl g1))]) hD hS hA [0, 1] rfl
                have hKc := hK.sub (tys' := [(cB, .byte)]) [0] rfl
                refine va_callr (va_runV (As := [.int (nI 126)]) (rest := []) ⟨hx, hb, hml, hown, htb⟩ (k_SB_append l dC dI _ sb bv1 ml1 cB g1 cap1 tx1 126 em aK aV hiB (by decide) (by omega)) (cwV 1 htb (g_V (fun _ h => h) m_337 m_721 m_335 m_336 m_3) rfl rfl rfl (by decide +kernel) ⟨Nat.le_of_ble_eq_true rfl, Nat.le_of_ble_eq_true rfl⟩) ⟨fun a U g mk q => by obtain ⟨q0, q1, qP, qK, qD, z0⟩ := q; exact ⟨q0, q1, qP, va_K.moved (u := U) (U := U.calling g mk a) (Vm.Alike.refl U.vm) qK, qD, EX.same (U := U) (U' := U.calling g mk a) rfl z0⟩, va_recv hK hP (ci := 13) rfl (q0 := 0) rfl, fun U hU hW => ⟨rfl, by rw [hU], by rw [hU]; exact hPc, va_K.moved hW.alike hKc, hDc.weaken (fun _ _ _ _ => trivial), by rw [hU]; exact EX.warm hW ((hE.kept (fun a h1 h2 => hS.2.1 a h1 h2)).narrow hFc)⟩⟩ rfl rfl hl.1 rfl (lv_room (Nat.le_of_ble_eq_true rfl)) d_PT_decoded_93 ⟨(by show ((b) + 1) ≤ (2 + sx.length); omega), (by show ((286 * b) + 286) ≤ (164 + 286 * sx.length); omega)⟩) hS (fun q _ h => hFc q h) hFc (fun u15 ra18 t H1 locs ht hvm hw17 hB hz1 hk1 hS => ?_)
                obtain ⟨x19, hP1, hK1, hD1⟩ := hB
                rw [ht] at hP1
                have hK1 := va_K.moved hvm.symm hK1
                obtain ⟨w20, w21⟩ := u15
                have hw17 : Bld (tx1 ++ [126]) w20 w21 := hw17
                obtain ⟨hP, hD⟩ := zz_joinN (pre := [(sb, .inr (13, [.ref bv1, .int 0, .int ml1, .int (nI tx1.length)])), (bv1, .inl (cB, cap1, .inl g1))]) (fz := fz) (wc := [(sb, .inr (13, [.ref bv1, .int 0, .int ml1, .int (nI tx1.length)])), (bv1, .inl (cB, cap1, .inl g1))]) (wr := []) (w1 := [(sb, .inr (13, [.ref x19, .int 0, .int ml1, .int (nI (tx1 ++ [126]).length)])), (x19, .inl (cB, w20, .inl w21))]) hP hD [0, 1] [] rfl rfl (by decide) (by decide) hk1 hFc hP1 hD1
                have hK := (hK.sub (tys' := []) [] rfl).app hK1
                generalize H1 = H at hP hS ⊢
                have hP : va_P (dC, dI) vwCl ([(sb, .inr (13, [.ref x19, .int 0, .int ml1, .int (nI (tx1 ++ [126]).length)])), (x19, .inl (cB, w20, .inl w21))] ++ fz) H := hP
                have hD : va_D A ([(sb, .inr (13, [.ref x19, .int 0, .int ml1, .int (nI (tx1 ++ [126]).length)])), (x19, .inl (cB, w20, .inl w21))] ++ fz) := hD
                have hK : va_K (dC, dI) vwCl [(cB, .byte)] s := hK
                refine lv_pop hx hb d_PT_decoded_96 rfl ?_
                refine lv_iinc (k := 2) (v := ((nI (b + 1)) + Int32.ofInt 1)) hx hb d_PT_decoded_97 hl rfl rfl (by decide) rfl (fun ls hl => ?_)
                have hl : lv_has ls 5 [(2, .int ((nI (b + 1)) + Int32.ofInt 1)), (3, .int 126), (4, .int (nI (sx.getD (b + 1) 0))), (0, .ref a), (1, .ref sb)] := hl
                rw [show nI (b + 1) + Int32.ofInt 1 = nI (b + 1 + 1) from nI_1 _] at hl
                refine lv_goto (tgt := 18) hx hb d_PT_decoded_100 rfl ?_
                refine W.widen (k := ((b + 1 + 1))) (n := (286 * (b + 1 + 1))) (by omega) (by omega) ?_
                exact ih (sx.length - (b + 1 + 1)) (by omega) (b + 1 + 1) x19 ml1 w20 w21 (tx1 ++ [126]) H locs ls rfl (by omega) (hw17) (by rw [hi2, drop_cons h2, drop_cons h4, h3, h5, dcd_0, Option.map_map]; congr 1; funext q; simp) (by simp; omega) (lv_sub hl [0, 3, 4] rfl) (zz_pickP (pre := [(sb, .inr (13, [.ref x19, .int 0, .int ml1, .int (nI (tx1 ++ [126]).length)])), (x19, .inl (cB, w20, .inl w21))]) (fz := fz) (wc := [(sb, .inr (13, [.ref x19, .int 0, .int ml1, .int (nI (tx1 ++ [126]).length)])), (x19, .inl (cB, w20, .inl w21))]) hP [0, 1] rfl) (zz_pickD (pre := [(sb, .inr (13, [.ref x19, .int 0, .int ml1, .int (nI (tx1 ++ [126]).length)])), (x19, .inl (cB, w20, .inl w21))]) (fz := fz) (wc := [(sb, .inr (13, [.ref x19, .int 0, .int ml1, .int (nI (tx1 ++ [126]).length)])), (x19, .inl (cB, w20, .inl w21))]) hD [0, 1] (by decide) rfl) hS
              · have h5 : ¬ sx.getD (b + 1) 0 = 48 := fun h => h5 (by rw [h]; rfl)
                refine lv_iload hx hb d_PT_decoded_67 (lv_at hl 0 rfl) ?_
                refine lv_bipush (v := 49) hx hb d_PT_decoded_69 (by decide) ?_
                refine lv_icmp_eq (tgt := 76) hx hb d_PT_decoded_71 rfl (fun h6 => ?_) (fun h6 => ?_)
                · have h6 : sx.getD (b + 1) 0 = 49 := (nI_eq (by omega) (by decide)).mp h6
                  refine lv_iload hx hb d_PT_decoded_76 (lv_at hl 0 rfl) ?_
                  refine lv_bipush (v := 48) hx hb d_PT_decoded_78 (by decide) ?_
                  refine lv_icmp_ne (tgt := 88) hx hb d_PT_decoded_80 rfl (fun _ => ?_) (fun h9 => absurd h9 (by rw [h6]; decide))
                  refine lv_bipush (v := 47) hx hb d_PT_decoded_88 (by decide) ?_
                  refine lv_istore_n hx hb d_PT_decoded_90 rfl hl (by decide) rfl (fun ls hl => ?_)
                  have hl : lv_has ls 5 [(3, .int 47), (4, .int (nI (sx.getD (b + 1) 0))), (2, .int (nI (b + 1))), (0, .ref a), (1, .ref sb)] := hl
                  refine lv_aload_n hx hb d_PT_decoded_91 rfl (lv_at hl 4 rfl) ?_
                  refine lv_iload_n hx hb d_PT_decoded_92 rfl (lv_at hl 0 rfl) ?_
                  have hPc := hP.sub (ws' := [(sb, .inr (13, [.ref bv1, .int 0, .int ml1, .int (nI tx1.length)])), (bv1, .inl (cB, cap1, .inl g1))]) [0, 1] rfl
                  have hDc := hD.sub (ws' := [(sb, .inr (13, [.ref bv1, .int 0, .int ml1, .int (nI tx1.length)])), (bv1, .inl (cB, cap1, .inl g1))]) [0, 1] (by decide) rfl
                  have hFc := va_free (wc := [(sb, .inr (13, [.ref bv1, .int 0, .int ml1, .int (nI tx1.length)])), (bv1, .inl (cB, cap1, .inl g1))]) hD hS hA [0, 1] rfl
                  have hKc := hK.sub (tys' := [(cB, .byte)]) [0] rfl
                  refine va_callr (va_runV (As := [.int (nI 47)]) (rest := []) ⟨hx, hb, hml, hown, htb⟩ (k_SB_append l dC dI _ sb bv1 ml1 cB g1 cap1 tx1 47 em aK aV hiB (by decide) (by omega)) (cwV 1 htb (g_V (fun _ h => h) m_337 m_721 m_335 m_336 m_3) rfl rfl rfl (by decide +kernel) ⟨Nat.le_of_ble_eq_true rfl, Nat.le_of_ble_eq_true rfl⟩) ⟨fun a U g mk q => by obtain ⟨q0, q1, qP, qK, qD, z0⟩ := q; exact ⟨q0, q1, qP, va_K.moved (u := U) (U := U.calling g mk a) (Vm.Alike.refl U.vm) qK, qD, EX.same (U := U) (U' := U.calling g mk a) rfl z0⟩, va_recv hK hP (ci := 13) rfl (q0 := 0) rfl, fun U hU hW => ⟨rfl, by rw [hU], by rw [hU]; exact hPc, va_K.moved hW.alike hKc, hDc.weaken (fun _ _ _ _ => trivial), by rw [hU]; exact EX.warm hW ((hE.kept (fun a h1 h2 => hS.2.1 a h1 h2)).narrow hFc)⟩⟩ rfl rfl hl.1 rfl (lv_room (Nat.le_of_ble_eq_true rfl)) d_PT_decoded_93 ⟨(by show ((b) + 1) ≤ (2 + sx.length); omega), (by show ((286 * b) + 286) ≤ (164 + 286 * sx.length); omega)⟩) hS (fun q _ h => hFc q h) hFc (fun u15 ra18 t H1 locs ht hvm hw17 hB hz1 hk1 hS => ?_)
                  obtain ⟨x19, hP1, hK1, hD1⟩ := hB
                  rw [ht] at hP1
                  have hK1 := va_K.moved hvm.symm hK1
                  obtain ⟨w20, w21⟩ := u15
                  have hw17 : Bld (tx1 ++ [47]) w20 w21 := hw17
                  obtain ⟨hP, hD⟩ := zz_joinN (pre := [(sb, .inr (13, [.ref bv1, .int 0, .int ml1, .int (nI tx1.length)])), (bv1, .inl (cB, cap1, .inl g1))]) (fz := fz) (wc := [(sb, .inr (13, [.ref bv1, .int 0, .int ml1, .int (nI tx1.length)])), (bv1, .inl (cB, cap1, .inl g1))]) (wr := []) (w1 := [(sb, .inr (13, [.ref x19, .int 0, .int ml1, .int (nI (tx1 ++ [47]).length)])), (x19, .inl (cB, w20, .inl w21))]) hP hD [0, 1] [] rfl rfl (by decide) (by decide) hk1 hFc hP1 hD1
                  have hK := (hK.sub (tys' := []) [] rfl).app hK1
                  generalize H1 = H at hP hS ⊢
                  have hP : va_P (dC, dI) vwCl ([(sb, .inr (13, [.ref x19, .int 0, .int ml1, .int (nI (tx1 ++ [47]).length)])), (x19, .inl (cB, w20, .inl w21))] ++ fz) H := hP
                  have hD : va_D A ([(sb, .inr (13, [.ref x19, .int 0, .int ml1, .int (nI (tx1 ++ [47]).length)])), (x19, .inl (cB, w20, .inl w21))] ++ fz) := hD
                  have hK : va_K (dC, dI) vwCl [(cB, .byte)] s := hK
                  refine lv_pop hx hb d_PT_decoded_96 rfl ?_
                  refine lv_iinc (k := 2) (v := ((nI (b + 1)) + Int32.ofInt 1)) hx hb d_PT_decoded_97 hl rfl rfl (by decide) rfl (fun ls hl => ?_)
                  have hl : lv_has ls 5 [(2, .int ((nI (b + 1)) + Int32.ofInt 1)), (3, .int 47), (4, .int (nI (sx.getD (b + 1) 0))), (0, .ref a), (1, .ref sb)] := hl
                  rw [show nI (b + 1) + Int32.ofInt 1 = nI (b + 1 + 1) from nI_1 _] at hl
                  refine lv_goto (tgt := 18) hx hb d_PT_decoded_100 rfl ?_
                  refine W.widen (k := ((b + 1 + 1))) (n := (286 * (b + 1 + 1))) (by omega) (by omega) ?_
                  exact ih (sx.length - (b + 1 + 1)) (by omega) (b + 1 + 1) x19 ml1 w20 w21 (tx1 ++ [47]) H locs ls rfl (by omega) (hw17) (by rw [hi2, drop_cons h2, drop_cons h4, h3, h6, dcd_1, Option.map_map]; congr 1; funext q; simp) (by simp; omega) (lv_sub hl [0, 3, 4] rfl) (zz_pickP (pre := [(sb, .inr (13, [.ref x19, .int 0, .int ml1, .int (nI (tx1 ++ [47]).length)])), (x19, .inl (cB, w20, .inl w21))]) (fz := fz) (wc := [(sb, .inr (13, [.ref x19, .int 0, .int ml1, .int (nI (tx1 ++ [47]).length)])), (x19, .inl (cB, w20, .inl w21))]) hP [0, 1] rfl) (zz_pickD (pre := [(sb, .inr (13, [.ref x19, .int 0, .int ml1, .int (nI (tx1 ++ [47]).length)])), (x19, .inl (cB, w20, .inl w21))]) (fz := fz) (wc := [(sb, .inr (13, [.ref x19, .int 0, .int ml1, .int (nI (tx1 ++ [47]).length)])), (x19, .inl (cB, w20, .inl w21))]) hD [0, 1] (by decide) rfl) hS
                · have h6 : ¬ sx.getD (b + 1) 0 = 49 := fun h => h6 (by rw [h]; rfl)
                  refine lv_null hx hb d_PT_decoded_74 ?_
                  have hP9 := zz_pickP (pre := [(sb, .inr (13, [.ref bv1, .int 0, .int ml1, .int (nI tx1.length)])), (bv1, .inl (cB, cap1, .inl g1))]) (fz := fz) (wc := [(sb, .inr (13, [.ref bv1, .int 0, .int ml1, .int (nI tx1.length)])), (bv1, .inl (cB, cap1, .inl g1))]) hP [0, 1] rfl
                  have hD9 := zz_pickD (pre := [(sb, .inr (13, [.ref bv1, .int 0, .int ml1, .int (nI tx1.length)])), (bv1, .inl (cB, cap1, .inl g1))]) (fz := fz) (wc := [(sb, .inr (13, [.ref bv1, .int 0, .int ml1, .int (nI tx1.length)])), (bv1, .inl (cB, cap1, .inl g1))]) hD [0, 1] (by decide) rfl
                  have hK9 := hK.sub (tys' := [(cB, .byte)]) [0] rfl
                  rw [hQ]
                  refine W.widen (k := (2 + sx.length)) (n := (164 + 286 * sx.length)) ((by show (b) ≤ (2 + sx.length); omega)) ((by show (286 * b) ≤ (164 + 286 * sx.length); omega)) ?_
                  exact W.aret (v := .null) hx hb hr (Or.inl ⟨_, rfl⟩) (Or.inl rfl) (fun t ht hW => ⟨⟨none, (ml1, tx1, cap1, g1, []), rfl, ⟨hiB, Or.inl ⟨rfl, by rw [hi2, drop_cons h2, drop_cons h4, h3, dcd_bad h5 h6]; rfl⟩⟩, ⟨bv1, by rw [ht]; exact hP9, va_K.moved hW.alike hK9, hD9⟩⟩, hS.F ht⟩) hS.2.2 d_PT_decoded_75
    refine W.widen (k := (0)) (n := (286 * 0)) (by omega) (by omega) ?_
    exact hloop _ 0 bv u3 cap g ([] : List Nat) _ _ ls rfl (Nat.zero_le _) (bld_nil hB) (by simp) (Nat.zero_le _) (lv_sub hl [0, 1, 2] rfl) (zz_pickP (pre := [(sb, .inr (13, [.ref bv, .int 0, .int u3, .int 0])), (bv, .inl (cB, cap, .inl g))]) (fz := fz) (wc := [(sb, .inr (13, [.ref bv, .int 0, .int u3, .int (nI ([] : List Nat).length)])), (bv, .inl (cB, cap, .inl g))]) hP [0, 1] rfl) (zz_pickD (pre := [(sb, .inr (13, [.ref bv, .int 0, .int u3, .int 0])), (bv, .inl (cB, cap, .inl g))]) (fz := fz) (wc := [(sb, .inr (13, [.ref bv, .int 0, .int u3, .int (nI ([] : List Nat).length)])), (bv, .inl (cB, cap, .inl g))]) hD [0, 1] (by decide) rfl) hS
  · have h1 : r1 < 0 := Int32.not_le.mp h1
    have hni : 126 ∉ sx := by rcases hw2 with ⟨_, h⟩ | ⟨h, _⟩; exact h; exact absurd h1 h
    refine lv_aload_n hx hb d_PT_decoded_9 rfl (lv_at hl 0 rfl) ?_
    have hP9 := zz_pickP (pre := [(sb, .inr (13, [.ref bv, .int 0, .int ml, .int (nI tx.length)])), (bv, .inl (cB, cap, .inl g))]) (fz := fz) (wc := [(sb, .inr (13, [.ref bv, .int 0, .int ml, .int (nI tx.length)])), (bv, .inl (cB, cap, .inl g))]) hP [0, 1] rfl
    have hD9 := zz_pickD (pre := [(sb, .inr (13, [.ref bv, .int 0, .int ml, .int (nI tx.length)])), (bv, .inl (cB, cap, .inl g))]) (fz := fz) (wc := [(sb, .inr (13, [.ref bv, .int 0, .int ml, .int (nI tx.length)])), (bv, .inl (cB, cap, .inl g))]) hD [0, 1] (by decide) rfl
    have hK9 := hK.sub (tys' := [(cB, .byte)]) [0] rfl
    rw [hQ]
    refine W.widen (k := (2 + sx.length)) (n := (164 + 286 * sx.length)) ((by show 0 ≤ (2 + sx.length); omega)) ((by show 0 ≤ (164 + 286 * sx.length); omega)) ?_
    exact W.aret (v := .ref a) hx hb hr (Or.inl ⟨_, rfl⟩) (Or.inr ⟨_, rfl⟩) (fun t ht hW => ⟨⟨(some a), (ml, tx, cap, g, []), rfl, ⟨hB, Or.inr ⟨_, _, rfl, dcd_plain hni, hax⟩⟩, ⟨bv, by rw [ht]; exact hP9, va_K.moved hW.alike hK9, hD9⟩⟩, hS.F ht⟩) hS.2.2 d_PT_decoded_10
set_option maxHeartbeats 1000000 in
set_option maxRecDepth 100000 in
/-- Pointer(step, rest) -/
theorem k_PT_initN (l : Launch) (dC : Nat → ClassId) (dI : Nat → Nat → Nat) (sz : Nat) (x : Nat) (a : Nat) (sx : List Nat) (cB : ClassId) (em : Nat) (aK : Nat → Nat) (aV : Nat → Nat) (fz : va_W) (hax : TX cB aK fz a sx) (hcc : ∀ c ∈ sx, c < 128) : Met l y_PT_init ws_PT_init ({ frames := 5, cells := 0, slots := 0, locals := 108 }) (va_Pc [.ref x, .ref a, .null] (fun U => U.heap.size = sz ∧ va_P (dC, dI) vwCl ([(x, .inr (5, [.null, .int 0, .null]))] ++ fz) U.heap ∧ va_K (dC, dI) vwCl [(cB, .byte)] U ∧ va_D (fun _ => True) ([(x, .inr (5, [.null, .int 0, .null]))] ++ fz) ∧ EX em aK aV (va_A ([(x, .inr (5, [.null, .int 0, .null]))] ++ fz) sz) U U.heap)) (va_Qv (fun (u : Unit) => True) (fun u t => va_P (dC, dI) vwCl ([(x, .inr (5, [.ref a, .int (oI (wnum sx)), .null]))] ++ fz) t.heap ∧ va_K (dC, dI) vwCl [(cB, .byte)] t ∧ va_D (va_A ([(x, .inr (5, [.null, .int 0, .null]))] ++ fz) sz) ([(x, .inr (5, [.ref a, .int (oI (wnum sx)), .null]))] ++ fz)) (va_A ([(x, .inr (5, [.null, .int 0, .null]))] ++ fz) sz)) 0 0 (va_A ([(x, .inr (5, [.null, .int 0, .null]))] ++ fz) sz) := by
  refine Met.ofW (cc := c_PT_init) (maxL := 3) (ret := none) (by decide) rfl ?_
  intro p e s m args below meth c s₁ B hml hv
  obtain ⟨rfl, hsz, hP, hK, hD0, hE⟩ := hv
  have hx := B.exec
  have hb := B.bytes
  have hr := B.returns
  have hts := atoms_spec (ws := ws_PT_init) B.pre
  have htb := fun w (h : w ∈ TBL) => hts w (List.mem_cons_of_mem _ h)
  have hown : s.vm.findClass R_PT = some m.cls := findClass_of_methodNamed B.named
  have hlocks := B.notSynchronized
  have hin : meth.name = "<init>" := (name_of_methodNamed B.named B.method).1
  subst hsz
  have hD := hD0.self (sz := s.heap.size)
  generalize hAe : va_A ([(x, .inr (5, [.null, .int 0, .null]))] ++ fz) s.heap.size = A at hD hE ⊢
  have hA : ∀ q : Nat, s.heap.size ≤ q → A q := fun q h => by rw [← hAe]; exact Or.inr h
  have hS : va_S A s.heap s.heap [] := va_S.rf
  have hP : va_P (dC, dI) vwCl ([(x, .inr (5, [.null, .int 0, .null]))] ++ fz) s.heap := hP
  have hl := lv_entry ([.ref x, .ref a, .null]) (n := 3) (Nat.le_of_ble_eq_true rfl)
  rw [lg_entry_eq]
  generalize (lg_sl ([.ref x, .ref a, .null]) ++ List.replicate (3 - (lg_sl ([.ref x, .ref a, .null])).length) Slot.unset).toArray = ls at hl ⊢
  have hl : lv_has ls 3 [(0, .ref x), (1, .ref a), (2, .null)] := hl
  refine lv_aload_n hx hb d_PT_init_0 rfl (lv_at hl 0 rfl) ?_
  refine W.objInit hx hb hown (htb _ m_619) (htb _ m_35) (htb _ m_36) rfl (by rw [hml]; exact hl.1) rfl d_PT_init_1 (Nat.le_of_ble_eq_true rfl) (Nat.le_of_ble_eq_true rfl) ?_
  refine W.eq (g2 := F0 m 4 ls []) rfl ?_
  refine lv_aload_n hx hb d_PT_init_4 rfl (lv_at hl 0 rfl) ?_
  refine lv_aload_n hx hb d_PT_init_5 rfl (lv_at hl 1 rfl) ?_
  refine va_putF (D := (dC, dI)) (ci := 5) (v := .ref a) (ty := (.object "java/lang/String")) (C := R_PT) (T := T_PT) (N := 3) hx hb htb in_PT ty_PT ty_PT_ok nm_PT hown hK hP hD hS 0 rfl rfl 0 (by decide) (htb _ m_626) (fun _ h9 => h9) rfl hin rfl (by decide +kernel) rfl rfl (Nat.le_of_ble_eq_true rfl) d_PT_init_6 (fun H locs hP hD hS => ?_)
  have hP : va_P (dC, dI) vwCl ([(x, .inr (5, [.ref a, .int 0, .null]))] ++ fz) H := hP
  have hD : va_D A ([(x, .inr (5, [.ref a, .int 0, .null]))] ++ fz) := hD
  refine lv_aload_n hx hb d_PT_init_9 rfl (lv_at hl 0 rfl) ?_
  refine lv_aload_n hx hb d_PT_init_10 rfl (lv_at hl 1 rfl) ?_
  have hPc := zz_pickP (pre := [(x, .inr (5, [.ref a, .int 0, .null]))]) (fz := fz) (wc := []) hP [] rfl
  have hDc := zz_pickD (pre := [(x, .inr (5, [.ref a, .int 0, .null]))]) (fz := fz) (wc := []) hD [] (by decide) rfl
  have hFc := zz_free (pre := [(x, .inr (5, [.ref a, .int 0, .null]))]) (fz := fz) (wc := []) hD hS hA [] rfl
  have hKc := hK.sub (tys' := [(cB, .byte)]) [0] rfl
  refine va_calli (va_runS (As := [.ref a]) (rest := [.ref x]) ⟨hx, hb, hml, hown, htb⟩ (k_PT_numberIn l dC dI _ a sx cB em aK aV fz hax hcc) (va_cwS 1 htb (g_S (fun _ h => h) m_622 m_620 m_621 m_21) rfl rfl rfl (by decide +kernel) ⟨Nat.le_of_ble_eq_true rfl, Nat.le_of_ble_eq_true rfl⟩) ⟨fun a U g mk q => by obtain ⟨q0, q1, qP, qK, qD, z0⟩ := q; exact ⟨q0, q1, qP, va_K.moved (u := U) (U := U.calling g mk a) (Vm.Alike.refl U.vm) qK, qD, EX.same (U := U) (U' := U.calling g mk a) rfl z0⟩, fun U hU hW => ⟨rfl, by rw [hU], by rw [hU]; exact hPc, va_K.moved hW.alike hKc, hDc.weaken (fun _ _ _ _ => trivial), by rw [hU]; exact EX.warm hW ((hE.kept (fun a h1 h2 => hS.2.1 a h1 h2)).narrow hFc)⟩⟩ rfl rfl hl.1 rfl (lv_room (Nat.le_of_ble_eq_true rfl)) d_PT_init_11 ⟨Nat.le_of_ble_eq_true rfl, Nat.le_of_ble_eq_true rfl⟩) hS (fun q _ h => hFc q h) hFc (fun r2 u1 t H1 locs ht hvm hw3 hB hz1 hk1 hS => ?_)
  obtain ⟨hP1, hK1, hD1⟩ := hB
  rw [ht] at hP1
  have hK1 := va_K.moved hvm.symm hK1
  have hw3 : r2 = oI (wnum sx) := hw3
  obtain ⟨hP, hD⟩ := zz_join (pre := [(x, .inr (5, [.ref a, .int 0, .null]))]) (fz := fz) (wc := []) (wr := [(x, .inr (5, [.ref a, .int 0, .null]))]) (w1 := ([] ++ fz)) hP hD [] [0] rfl rfl (by decide) (by decide) hk1 hFc hP1 hD1
  have hK := (hK.sub (tys' := []) [] rfl).app hK1
  generalize H1 = H at hP hS ⊢
  have hP : va_P (dC, dI) vwCl ([(x, .inr (5, [.ref a, .int 0, .null]))] ++ fz) H := hP
  have hD : va_D A ([(x, .inr (5, [.ref a, .int 0, .null]))] ++ fz) := hD
  have hK : va_K (dC, dI) vwCl [(cB, .byte)] s := hK
  obtain rfl := hw3
  refine va_putF (D := (dC, dI)) (ci := 5) (v := .int (oI (wnum sx))) (ty := .int) (C := R_PT) (T := T_PT) (N := 3) hx hb htb in_PT ty_PT ty_PT_ok nm_PT hown hK hP hD hS 0 rfl rfl 1 (by decide) (htb _ m_628) (fun _ h9 => h9) rfl hin rfl (by decide +kernel) rfl rfl (Nat.le_of_ble_eq_true rfl) d_PT_init_14 (fun H locs hP hD hS => ?_)
  have hP : va_P (dC, dI) vwCl ([(x, .inr (5, [.ref a, .int (oI (wnum sx)), .null]))] ++ fz) H := hP
  have hD : va_D A ([(x, .inr (5, [.ref a, .int (oI (wnum sx)), .null]))] ++ fz) := hD
  refine lv_aload_n hx hb d_PT_init_17 rfl (lv_at hl 0 rfl) ?_
  refine lv_aload_nN hx hb d_PT_init_18 rfl (lv_at hl 2 rfl) ?_
  refine va_putF (D := (dC, dI)) (ci := 5) (v := .null) (ty := (.object "PatchStore$Pointer")) (C := R_PT) (T := T_PT) (N := 3) hx hb htb in_PT ty_PT ty_PT_ok nm_PT hown hK hP hD hS 0 rfl rfl 2 (by decide) (htb _ m_630) (fun _ h9 => h9) rfl hin rfl (by decide +kernel) rfl rfl (Nat.le_of_ble_eq_true rfl) d_PT_init_19 (fun H locs hP hD hS => ?_)
  have hP : va_P (dC, dI) vwCl ([(x, .inr (5, [.ref a, .int (oI (wnum sx)), .null]))] ++ fz) H := hP
  have hD : va_D A ([(x, .inr (5, [.ref a, .int (oI (wnum sx)), .null]))] ++ fz) := hD
  have hP9 := zz_pickP (pre := [(x, .inr (5, [.ref a, .int (oI (wnum sx)), .null]))]) (fz := fz) (wc := [(x, .inr (5, [.ref a, .int (oI (wnum sx)), .null]))]) hP [0] rfl
  have hD9 := zz_pickD (pre := [(x, .inr (5, [.ref a, .int (oI (wnum sx)), .null]))]) (fz := fz) (wc := [(x, .inr (5, [.ref a, .int (oI (wnum sx)), .null]))]) hD [0] (by decide) rfl
  have hK9 := hK.sub (tys' := [(cB, .byte)]) [0] rfl
  refine W.widen (k := 0) (n := 0) (Nat.le_of_ble_eq_true rfl) (Nat.le_of_ble_eq_true rfl) ?_
  exact W.vret hx hb hr (fun t ht hW => ⟨⟨(), rfl, trivial, ⟨by rw [ht]; exact hP9, va_K.moved hW.alike hK9, hD9⟩⟩, hS.F ht⟩) hS.2.2 d_PT_init_22
set_option maxHeartbeats 1000000 in
set_option maxRecDepth 100000 in
/-- Pointer(step, rest) -/
theorem k_PT_init (l : Launch) (dC : Nat → ClassId) (dI : Nat → Nat → Nat) (sz : Nat) (x : Nat) (a : Nat) (sx : List Nat) (cB : ClassId) (b : Nat) (em : Nat) (aK : Nat → Nat) (aV : Nat → Nat) (fz : va_W) (hax : TX cB aK fz a sx) (hcc : ∀ c ∈ sx, c < 128) : Met l y_PT_init ws_PT_init ({ frames := 5, cells := 0, slots := 0, locals := 108 }) (va_Pc [.ref x, .ref a, .ref b] (fun U => U.heap.size = sz ∧ va_P (dC, dI) vwCl ([(x, .inr (5, [.null, .int 0, .null]))] ++ fz) U.heap ∧ va_K (dC, dI) vwCl [(cB, .byte)] U ∧ va_D (fun _ => True) ([(x, .inr (5, [.null, .int 0, .null]))] ++ fz) ∧ EX em aK aV (va_A ([(x, .inr (5, [.null, .int 0, .null]))] ++ fz) sz) U U.heap)) (va_Qv (fun (u : Unit) => True) (fun u t => va_P (dC, dI) vwCl ([(x, .inr (5, [.ref a, .int (oI (wnum sx)), .ref b]))] ++ fz) t.heap ∧ va_K (dC, dI) vwCl [(cB, .byte)] t ∧ va_D (va_A ([(x, .inr (5, [.null, .int 0, .null]))] ++ fz) sz) ([(x, .inr (5, [.ref a, .int (oI (wnum sx)), .ref b]))] ++ fz)) (va_A ([(x, .inr (5, [.null, .int 0, .null]))] ++ fz) sz)) 0 0 (va_A ([(x, .inr (5, [.null, .int 0, .null]))] ++ fz) sz) := by
  refine Met.ofW (cc := c_PT_init) (maxL := 3) (ret := none) (by decide) rfl ?_
  intro p e s m args below meth c s₁ B hml hv
  obtain ⟨rfl, hsz, hP, hK, hD0, hE⟩ := hv
  have hx := B.exec
  have hb := B.bytes
  have hr := B.returns
  have hts := atoms_spec (ws := ws_PT_init) B.pre
  have htb := fun w (h : w ∈ TBL) => hts w (List.mem_cons_of_mem _ h)
  have hown : s.vm.findClass R_PT = some m.cls := findClass_of_methodNamed B.named
  have hlocks := B.notSynchronized
  have hin : meth.name = "<init>" := (name_of_methodNamed B.named B.method).1
  subst hsz
  have hD := hD0.self (sz := s.heap.size)
  generalize hAe : va_A ([(x, .inr (5, [.null, .int 0, .null]))] ++ fz) s.heap.size = A at hD hE ⊢
  have hA : ∀ q : Nat, s.heap.size ≤ q → A q := fun q h => by rw [← hAe]; exact Or.inr h
  have hS : va_S A s.heap s.heap [] := va_S.rf
  have hP : va_P (dC, dI) vwCl ([(x, .inr (5, [.null, .int 0, .null]))] ++ fz) s.heap := hP
  have hl := lv_entry ([.ref x, .ref a, .ref b]) (n := 3) (Nat.le_of_ble_eq_true rfl)
  rw [lg_entry_eq]
  generalize (lg_sl ([.ref x, .ref a, .ref b]) ++ List.replicate (3 - (lg_sl ([.ref x, .ref a, .ref b])).length) Slot.unset).toArray = ls at hl ⊢
  have hl : lv_has ls 3 [(0, .ref x), (1, .ref a), (2, .ref b)] := hl
  refine lv_aload_n hx hb d_PT_init_0 rfl (lv_at hl 0 rfl) ?_
  refine W.objInit hx hb hown (htb _ m_619) (htb _ m_35) (htb _ m_36) rfl (by rw [hml]; exact hl.1) rfl d_PT_init_1 (Nat.le_of_ble_eq_true rfl) (Nat.le_of_ble_eq_true rfl) ?_
  refine W.eq (g2 := F0 m 4 ls []) rfl ?_
  refine lv_aload_n hx hb d_PT_init_4 rfl (lv_at hl 0 rfl) ?_
  refine lv_aload_n hx hb d_PT_init_5 rfl (lv_at hl 1 rfl) ?_
  refine va_putF (D := (dC, dI)) (ci := 5) (v := .ref a) (ty := (.object "java/lang/String")) (C := R_PT) (T := T_PT) (N := 3) hx hb htb in_PT ty_PT ty_PT_ok nm_PT hown hK hP hD hS 0 rfl rfl 0 (by decide) (htb _ m_626) (fun _ h9 => h9) rfl hin rfl (by decide +kernel) rfl rfl (Nat.le_of_ble_eq_true rfl) d_PT_init_6 (fun H locs hP hD hS => ?_)
  have hP : va_P (dC, dI) vwCl ([(x, .inr (5, [.ref a, .int 0, .null]))] ++ fz) H := hP
  have hD : va_D A ([(x, .inr (5, [.ref a, .int 0, .null]))] ++ fz) := hD
  refine lv_aload_n hx hb d_PT_init_9 rfl (lv_at hl 0 rfl) ?_
  refine lv_aload_n hx hb d_PT_init_10 rfl (lv_at hl 1 rfl) ?_
  have hPc := zz_pickP (pre := [(x, .inr (5, [.ref a, .int 0, .null]))]) (fz := fz) (wc := []) hP [] rfl
  have hDc := zz_pickD (pre := [(x, .inr (5, [.ref a, .int 0, .null]))]) (fz := fz) (wc := []) hD [] (by decide) rfl
  have hFc := zz_free (pre := [(x, .inr (5, [.ref a, .int 0, .null]))]) (fz := fz) (wc := []) hD hS hA [] rfl
  have hKc := hK.sub (tys' := [(cB, .byte)]) [0] rfl
  refine va_calli (va_runS (As := [.ref a]) (rest := [.ref x]) ⟨hx, hb, hml, hown, htb⟩ (k_PT_numberIn l dC dI _ a sx cB em aK aV fz hax hcc) (va_cwS 1 htb (g_S (fun _ h => h) m_622 m_620 m_621 m_21) rfl rfl rfl (by decide +kernel) ⟨Nat.le_of_ble_eq_true rfl, Nat.le_of_ble_eq_true rfl⟩) ⟨fun a U g mk q => by obtain ⟨q0, q1, qP, qK, qD, z0⟩ := q; exact ⟨q0, q1, qP, va_K.moved (u := U) (U := U.calling g mk a) (Vm.Alike.refl U.vm) qK, qD, EX.same (U := U) (U' := U.calling g mk a) rfl z0⟩, fun U hU hW => ⟨rfl, by rw [hU], by rw [hU]; exact hPc, va_K.moved hW.alike hKc, hDc.weaken (fun _ _ _ _ => trivial), by rw [hU]; exact EX.warm hW ((hE.kept (fun a h1 h2 => hS.2.1 a h1 h2)).narrow hFc)⟩⟩ rfl rfl hl.1 rfl (lv_room (Nat.le_of_ble_eq_true rfl)) d_PT_init_11 ⟨Nat.le_of_ble_eq_true rfl, Nat.le_of_ble_eq_true rfl⟩) hS (fun q _ h => hFc q h) hFc (fun r2 u1 t H1 locs ht hvm hw3 hB hz1 hk1 hS => ?_)
  obtain ⟨hP1, hK1, hD1⟩ := hB
  rw [ht] at hP1
  have hK1 := va_K.moved hvm.symm hK1
  have hw3 : r2 = oI (wnum sx) := hw3
  obtain ⟨hP, hD⟩ := zz_join (pre := [(x, .inr (5, [.ref a, .int 0, .null]))]) (fz := fz) (wc := []) (wr := [(x, .inr (5, [.ref a, .int 0, .null]))]) (w1 := ([] ++ fz)) hP hD [] [0] rfl rfl (by decide) (by decide) hk1 hFc hP1 hD1
  have hK := (hK.sub (tys' := []) [] rfl).app hK1
  generalize H1 = H at hP hS ⊢
  have hP : va_P (dC, dI) vwCl ([(x, .inr (5, [.ref a, .int 0, .null]))] ++ fz) H := hP
  have hD : va_D A ([(x, .inr (5, [.ref a, .int 0, .null]))] ++ fz) := hD
  have hK : va_K (dC, dI) vwCl [(cB, .byte)] s := hK
  obtain rfl := hw3
  refine va_putF (D := (dC, dI)) (ci := 5) (v := .int (oI (wnum sx))) (ty := .int) (C := R_PT) (T := T_PT) (N := 3) hx hb htb in_PT ty_PT ty_PT_ok nm_PT hown hK hP hD hS 0 rfl rfl 1 (by decide) (htb _ m_628) (fun _ h9 => h9) rfl hin rfl (by decide +kernel) rfl rfl (Nat.le_of_ble_eq_true rfl) d_PT_init_14 (fun H locs hP hD hS => ?_)
  have hP : va_P (dC, dI) vwCl ([(x, .inr (5, [.ref a, .int (oI (wnum sx)), .null]))] ++ fz) H := hP
  have hD : va_D A ([(x, .inr (5, [.ref a, .int (oI (wnum sx)), .null]))] ++ fz) := hD
  refine lv_aload_n hx hb d_PT_init_17 rfl (lv_at hl 0 rfl) ?_
  refine lv_aload_n hx hb d_PT_init_18 rfl (lv_at hl 2 rfl) ?_
  refine va_putF (D := (dC, dI)) (ci := 5) (v := .ref b) (ty := (.object "PatchStore$Pointer")) (C := R_PT) (T := T_PT) (N := 3) hx hb htb in_PT ty_PT ty_PT_ok nm_PT hown hK hP hD hS 0 rfl rfl 2 (by decide) (htb _ m_630) (fun _ h9 => h9) rfl hin rfl (by decide +kernel) rfl rfl (Nat.le_of_ble_eq_true rfl) d_PT_init_19 (fun H locs hP hD hS => ?_)
  have hP : va_P (dC, dI) vwCl ([(x, .inr (5, [.ref a, .int (oI (wnum sx)), .ref b]))] ++ fz) H := hP
  have hD : va_D A ([(x, .inr (5, [.ref a, .int (oI (wnum sx)), .ref b]))] ++ fz) := hD
  have hP9 := zz_pickP (pre := [(x, .inr (5, [.ref a, .int (oI (wnum sx)), .ref b]))]) (fz := fz) (wc := [(x, .inr (5, [.ref a, .int (oI (wnum sx)), .ref b]))]) hP [0] rfl
  have hD9 := zz_pickD (pre := [(x, .inr (5, [.ref a, .int (oI (wnum sx)), .ref b]))]) (fz := fz) (wc := [(x, .inr (5, [.ref a, .int (oI (wnum sx)), .ref b]))]) hD [0] (by decide) rfl
  have hK9 := hK.sub (tys' := [(cB, .byte)]) [0] rfl
  refine W.widen (k := 0) (n := 0) (Nat.le_of_ble_eq_true rfl) (Nat.le_of_ble_eq_true rfl) ?_
  exact W.vret hx hb hr (fun t ht hW => ⟨⟨(), rfl, trivial, ⟨by rw [ht]; exact hP9, va_K.moved hW.alike hK9, hD9⟩⟩, hS.F ht⟩) hS.2.2 d_PT_init_22
