set_option maxHeartbeats 1000000 in
set_option maxRecDepth 100000 in
/-- name() -/
theorem k_CU_name (l : Launch) (dC : Nat → ClassId) (dI : Nat → Nat → Nat) (sz : Nat) (x : Nat) (dl : Nat) (sb : Nat) (cC : ClassId) (f : Nat → Int32) (L : List Nat) (a : Nat) (bv : Nat) (ml : Int32) (cB : ClassId) (g : Nat → Int32) (cap : Nat) (tx : List Nat) (em : Nat) (aK : Nat → Nat) (aV : Nat → Nat) (fz : va_W) (hL : Drf L f) (ha : a ≤ L.length) (hB : Bld tx cap g) : Met l y_CU_name ws_CU_name ({ frames := 6, cells := (2 + cns (L.drop a) (nmP (L.drop a))), slots := (164 + 286 * cns (L.drop a) (nmP (L.drop a))), locals := 151 }) (va_Pc [.ref x] (fun U => U.heap.size = sz ∧ va_P (dC, dI) vwCl ([(x, .inr (1, [.ref dl, .int (nI L.length), .int (nI a), .ref sb])), (dl, .inl (cC, 160, .inl f)), (sb, .inr (13, [.ref bv, .int 0, .int ml, .int (nI tx.length)])), (bv, .inl (cB, cap, .inl g))] ++ fz) U.heap ∧ va_K (dC, dI) vwCl [(cC, .char), (cB, .byte)] U ∧ va_D (fun _ => True) ([(x, .inr (1, [.ref dl, .int (nI L.length), .int (nI a), .ref sb])), (dl, .inl (cC, 160, .inl f)), (sb, .inr (13, [.ref bv, .int 0, .int ml, .int (nI tx.length)])), (bv, .inl (cB, cap, .inl g))] ++ fz) ∧ EX em aK aV (va_A ([(x, .inr (1, [.ref dl, .int (nI L.length), .int (nI a), .ref sb])), (dl, .inl (cC, 160, .inl f)), (sb, .inr (13, [.ref bv, .int 0, .int ml, .int (nI tx.length)])), (bv, .inl (cB, cap, .inl g))] ++ fz) sz) U U.heap)) (va_Qq (fun (r : Option Nat) (u : Nat × Int32 × List Nat × Nat × (Nat → Int32) × va_W) => Bld u.2.2.1 u.2.2.2.1 u.2.2.2.2.1 ∧ a ≤ u.1 ∧ u.1 ≤ L.length ∧ ((r = none ∧ nmP (L.drop a) = none ∧ u.2.2.2.2.2 = []) ∨ ∃ y8 t8, r = some y8 ∧ nmP (L.drop a) = some (t8, L.drop u.1) ∧ TXz cB u.2.2.2.2.2 y8 t8)) (fun u t => ∃ (bv9 : Nat), va_P (dC, dI) vwCl ([(x, .inr (1, [.ref dl, .int (nI L.length), .int (nI u.1), .ref sb])), (dl, .inl (cC, 160, .inl f)), (sb, .inr (13, [.ref bv9, .int 0, .int u.2.1, .int (nI u.2.2.1.length)])), (bv9, .inl (cB, u.2.2.2.1, .inl u.2.2.2.2.1))] ++ (u.2.2.2.2.2 ++ fz)) t.heap ∧ va_K (dC, dI) vwCl [(cC, .char), (cB, .byte)] t ∧ va_D (va_A ([(x, .inr (1, [.ref dl, .int (nI L.length), .int (nI a), .ref sb])), (dl, .inl (cC, 160, .inl f)), (sb, .inr (13, [.ref bv, .int 0, .int ml, .int (nI tx.length)])), (bv, .inl (cB, cap, .inl g))] ++ fz) sz) ([(x, .inr (1, [.ref dl, .int (nI L.length), .int (nI u.1), .ref sb])), (dl, .inl (cC, 160, .inl f)), (sb, .inr (13, [.ref bv9, .int 0, .int u.2.1, .int (nI u.2.2.1.length)])), (bv9, .inl (cB, u.2.2.2.1, .inl u.2.2.2.2.1))] ++ (u.2.2.2.2.2 ++ fz))) (va_A ([(x, .inr (1, [.ref dl, .int (nI L.length), .int (nI a), .ref sb])), (dl, .inl (cC, 160, .inl f)), (sb, .inr (13, [.ref bv, .int 0, .int ml, .int (nI tx.length)])), (bv, .inl (cB, cap, .inl g))] ++ fz) sz)) (2 + cns (L.drop a) (nmP (L.drop a))) (164 + 286 * cns (L.drop a) (nmP (L.drop a))) (va_A ([(x, .inr (1, [.ref dl, .int (nI L.length), .int (nI a), .ref sb])), (dl, .inl (cC, 160, .inl f)), (sb, .inr (13, [.ref bv, .int 0, .int ml, .int (nI tx.length)])), (bv, .inl (cB, cap, .inl g))] ++ fz) sz) := by
  refine Met.ofW (cc := c_CU_name) (maxL := 1) (ret := (some (.object "java/lang/String"))) (by decide) rfl ?_
  intro p e s m args below meth c s₁ B hml hv
  obtain ⟨hargs, hsz, hP, hK, hD0, hE⟩ := hv
  rw [show entryFrame m args 1 = entryFrame m ([.ref x]).toArray 1 by rw [hargs]]
  have hx := B.exec
  have hb := B.bytes
  have hr := B.returns
  have hts := atoms_spec (ws := ws_CU_name) B.pre
  have htb := fun w (h : w ∈ TBL) => hts w (List.mem_cons_of_mem _ h)
  have hown : s.vm.findClass R_CU = some m.cls := findClass_of_methodNamed B.named
  have hlocks := B.notSynchronized
  subst hsz
  have hD := hD0.self (sz := s.heap.size)
  generalize hAe : va_A ([(x, .inr (1, [.ref dl, .int (nI L.length), .int (nI a), .ref sb])), (dl, .inl (cC, 160, .inl f)), (sb, .inr (13, [.ref bv, .int 0, .int ml, .int (nI tx.length)])), (bv, .inl (cB, cap, .inl g))] ++ fz) s.heap.size = A at hD hE ⊢
  have hA : ∀ q : Nat, s.heap.size ≤ q → A q := fun q h => by rw [← hAe]; exact Or.inr h
  have hS : va_S A s.heap s.heap [] := va_S.rf
  have hP : va_P (dC, dI) vwCl ([(x, .inr (1, [.ref dl, .int (nI L.length), .int (nI a), .ref sb])), (dl, .inl (cC, 160, .inl f)), (sb, .inr (13, [.ref bv, .int 0, .int ml, .int (nI tx.length)])), (bv, .inl (cB, cap, .inl g))] ++ fz) s.heap := hP
  have hl := lv_entry ([.ref x]) (n := 1) (Nat.le_of_ble_eq_true rfl)
  rw [lg_entry_eq]
  generalize (lg_sl ([.ref x]) ++ List.replicate (1 - (lg_sl ([.ref x])).length) Slot.unset).toArray = ls at hl ⊢
  replace hl : lv_has ls 1 [(0, .ref x)] := hl
  refine zz_nQ (fun Q hQ => ?_)
  have h160 : L.length ≤ 160 := hL.1
  refine lv_aload_n hx hb d_CU_name_0 rfl (lv_at hl 0 rfl) ?_
  refine va_get (D := (dC, dI)) (ci := 1) (v := .ref sb) (C := R_CU) (T := T_CU) (N := 4) hx hb htb in_CU hown hK hP 0 rfl rfl 3 (by decide) (htb _ m_145) (fun _ h9 => h9) rfl d_CU_name_1 ?_
  refine lv_iconst (v := 0) hx hb d_CU_name_4 (by decide) ?_
  have hPc := hP.sub (ws' := [(sb, .inr (13, [.ref bv, .int 0, .int ml, .int (nI tx.length)])), (bv, .inl (cB, cap, .inl g))]) [2, 3] rfl
  have hDc := hD.sub (ws' := [(sb, .inr (13, [.ref bv, .int 0, .int ml, .int (nI tx.length)])), (bv, .inl (cB, cap, .inl g))]) [2, 3] (by decide) rfl
  have hFc := va_free (wc := [(sb, .inr (13, [.ref bv, .int 0, .int ml, .int (nI tx.length)])), (bv, .inl (cB, cap, .inl g))]) hD hS hA [2, 3] rfl
  have hKc := hK.sub (tys' := [(cB, .byte)]) [1] rfl
  refine va_callv (va_runV (As := [.int 0]) (rest := []) ⟨hx, hb, hml, hown, htb⟩ (k_SB_setLength0 l dC dI _ sb bv ml tx.length cB g cap hB.2.1 hB.cap) (cwV 1 htb (g_V (fun _ h => h) m_196 m_193 m_194 m_195 m_3) rfl rfl rfl (by decide +kernel) ⟨Nat.le_of_ble_eq_true rfl, Nat.le_of_ble_eq_true rfl⟩) ⟨fun a U g mk q => by obtain ⟨q0, q1, qP, qK, qD⟩ := q; exact ⟨q0, q1, qP, va_K.moved (u := U) (U := U.calling g mk a) (Vm.Alike.refl U.vm) qK, qD⟩, va_recv hK hP (ci := 13) rfl (q0 := 2) rfl, fun U hU hW => ⟨rfl, by rw [hU], by rw [hU]; exact hPc, va_K.moved hW.alike hKc, hDc.weaken (fun _ _ _ _ => trivial)⟩⟩ rfl rfl hl.1 rfl (lv_room (Nat.le_of_ble_eq_true rfl)) d_CU_name_5 ⟨(by show 0 ≤ (2 + cns (L.drop a) (nmP (L.drop a))); omega), (by show 0 ≤ (164 + 286 * cns (L.drop a) (nmP (L.drop a))); omega)⟩) hS (fun q _ h => hFc q h) hFc (fun u21 t H1 locs ht hvm hw23 hB hz1 hk1 hS => ?_)
  obtain ⟨hP1, hK1, hD1⟩ := hB
  rw [ht] at hP1
  have hK1 := va_K.moved hvm.symm hK1
  replace hw23 : True := hw23
  obtain ⟨hP, hD⟩ := zz_joinN (pre := [(x, .inr (1, [.ref dl, .int (nI L.length), .int (nI a), .ref sb])), (dl, .inl (cC, 160, .inl f)), (sb, .inr (13, [.ref bv, .int 0, .int ml, .int (nI tx.length)])), (bv, .inl (cB, cap, .inl g))]) (fz := fz) (wc := [(sb, .inr (13, [.ref bv, .int 0, .int ml, .int (nI tx.length)])), (bv, .inl (cB, cap, .inl g))]) (wr := [(x, .inr (1, [.ref dl, .int (nI L.length), .int (nI a), .ref sb])), (dl, .inl (cC, 160, .inl f))]) (w1 := [(sb, .inr (13, [.ref bv, .int 0, .int u21, .int 0])), (bv, .inl (cB, cap, .inl g))]) hP hD [2, 3] [0, 1] rfl rfl (by decide) (by decide) hk1 hFc hP1 hD1
  have hK := (hK.sub (tys' := [(cC, .char)]) [0] rfl).app hK1
  generalize H1 = H at hP hS ⊢
  replace hP : va_P (dC, dI) vwCl ([(x, .inr (1, [.ref dl, .int (nI L.length), .int (nI a), .ref sb])), (dl, .inl (cC, 160, .inl f)), (sb, .inr (13, [.ref bv, .int 0, .int u21, .int 0])), (bv, .inl (cB, cap, .inl g))] ++ fz) H := hP
  replace hD : va_D A ([(x, .inr (1, [.ref dl, .int (nI L.length), .int (nI a), .ref sb])), (dl, .inl (cC, 160, .inl f)), (sb, .inr (13, [.ref bv, .int 0, .int u21, .int 0])), (bv, .inl (cB, cap, .inl g))] ++ fz) := hD
  replace hK : va_K (dC, dI) vwCl [(cC, .char), (cB, .byte)] s := hK
  clear hPc hDc hFc hKc hP1 hD1 hK1 hk1 hz1 ht hvm
  have hjoinX : ∀ (b : Nat) (bv1 : Nat) (ml1 : Int32) (cap1 : Nat) (g1 : Nat → Int32) (tx1 : List Nat) (H : Heap) (locs : List Loc) (ls : Array Slot), (a ≤ b) → (b ≤ L.length) → (Bld tx1 cap1 g1) → (tx1.length = b - a) → (b - a ≤ cns (L.drop a) (nmP (L.drop a))) → ((tx1 = [] ∧ nmP (L.drop a) = none) ∨ nmP (L.drop a) = some (tx1, L.drop b)) → lv_has ls 1 [(0, .ref x)] → va_P (dC, dI) vwCl ([(x, .inr (1, [.ref dl, .int (nI L.length), .int (nI b), .ref sb])), (dl, .inl (cC, 160, .inl f)), (sb, .inr (13, [.ref bv1, .int 0, .int ml1, .int (nI tx1.length)])), (bv1, .inl (cB, cap1, .inl g1))] ++ fz) H → va_D A ([(x, .inr (1, [.ref dl, .int (nI L.length), .int (nI b), .ref sb])), (dl, .inl (cC, 160, .inl f)), (sb, .inr (13, [.ref bv1, .int 0, .int ml1, .int (nI tx1.length)])), (bv1, .inl (cB, cap1, .inl g1))] ++ fz) → va_S A s.heap H locs → W p l e (headSpec ws_CU_name ({ frames := 6, cells := (2 + cns (L.drop a) (nmP (L.drop a))), slots := (164 + 286 * cns (L.drop a) (nmP (L.drop a))), locals := 151 })).room s m args below meth c H locs (b - a) (286 * (b - a)) Q (F0 m 89 ls []) := by
    intro b bv1 ml1 cap1 g1 tx1 H locs ls hi0 hi1 hiB hil hcs hX hl hP hD hS
    refine lv_aload_n hx hb d_CU_name_89 rfl (lv_at hl 0 rfl) ?_
    refine va_get (D := (dC, dI)) (ci := 1) (v := .ref sb) (C := R_CU) (T := T_CU) (N := 4) hx hb htb in_CU hown hK hP 0 rfl rfl 3 (by decide) (htb _ m_145) (fun _ h9 => h9) rfl d_CU_name_90 ?_
    have hPc : va_P (dC, dI) vwCl [(sb, .inr (13, [.ref bv1, .int 0, .int ml1, .int (nI tx1.length)]))] _ := hP.sub (ws' := [(sb, .inr (13, [.ref bv1, .int 0, .int ml1, .int (nI tx1.length)]))]) [2] rfl
    have hKc := hK.sub (tys' := []) [] rfl
    refine vp_callSi (W.runV (As := []) (rest := []) ⟨hx, hb, hml, hown, htb⟩ (q_SB_length l dC dI sb bv1 ml1 tx1.length ) (cwV 0 htb (g_V (fun _ h => h) m_276 m_925 m_275 m_1604 m_3) rfl rfl rfl (by decide +kernel) ⟨Nat.le_of_ble_eq_true rfl, Nat.le_of_ble_eq_true rfl⟩) ⟨fun a U g mk q => by obtain ⟨q0, qP, qK⟩ := q; exact ⟨q0, qP, va_K.moved (u := U) (U := U.calling g mk a) (Vm.Alike.refl U.vm) qK⟩, va_recv hKc hPc (ci := 13) rfl (q0 := 0) rfl, fun U hU hW => ⟨rfl, by rw [hU]; exact hPc, va_K.moved hW.alike hKc⟩⟩ rfl rfl hl.1 rfl (lv_room (Nat.le_of_ble_eq_true rfl)) d_CU_name_93 ⟨(by show (b - a) ≤ (2 + cns (L.drop a) (nmP (L.drop a))); omega), (by show (286 * (b - a)) ≤ (164 + 286 * cns (L.drop a) (nmP (L.drop a))); omega)⟩) (fun r25 hw26 => ?_)
    replace hw26 : r25 = nI tx1.length := hw26
    clear hPc hKc
    obtain rfl := hw26
    refine lv_if_ne (tgt := 103) hx hb d_CU_name_96 rfl (fun h1 => ?_) (fun h1 => ?_)
    · have h1 : ¬ tx1.length = 0 := fun h => h1 (by rw [h]; rfl)
      have hsm : nmP (L.drop a) = some (tx1, L.drop b) := by rcases hX with h9 | h9; exact absurd (by rw [h9.1]; rfl) h1; exact h9
      refine lv_aload_n hx hb d_CU_name_103 rfl (lv_at hl 0 rfl) ?_
      refine va_get (D := (dC, dI)) (ci := 1) (v := .ref sb) (C := R_CU) (T := T_CU) (N := 4) hx hb htb in_CU hown hK hP 0 rfl rfl 3 (by decide) (htb _ m_145) (fun _ h9 => h9) rfl d_CU_name_104 ?_
      have hPc := hP.sub (ws' := [(sb, .inr (13, [.ref bv1, .int 0, .int ml1, .int (nI tx1.length)])), (bv1, .inl (cB, cap1, .inl g1))]) [2, 3] rfl
      have hDc := hD.sub (ws' := [(sb, .inr (13, [.ref bv1, .int 0, .int ml1, .int (nI tx1.length)])), (bv1, .inl (cB, cap1, .inl g1))]) [2, 3] (by decide) rfl
      have hFc := va_free (wc := [(sb, .inr (13, [.ref bv1, .int 0, .int ml1, .int (nI tx1.length)])), (bv1, .inl (cB, cap1, .inl g1))]) hD hS hA [2, 3] rfl
      have hKc := hK.sub (tys' := [(cB, .byte)]) [1] rfl
      refine va_callr (va_runV (As := []) (rest := []) ⟨hx, hb, hml, hown, htb⟩ (k_SB_toString l dC dI _ sb bv1 ml1 tx1.length cB g1 cap1 em aK aV hiB.2.2.2.1 (by omega) hiB.2.1 hiB.cap) (cwV 0 htb (g_V (fun _ h => h) m_256 m_253 m_254 m_255 m_3) rfl rfl rfl (by decide +kernel) ⟨Nat.le_of_ble_eq_true rfl, Nat.le_of_ble_eq_true rfl⟩) ⟨fun a U g mk q => by obtain ⟨q0, q1, qP, qK, qD, z0⟩ := q; exact ⟨q0, q1, qP, va_K.moved (u := U) (U := U.calling g mk a) (Vm.Alike.refl U.vm) qK, qD, EX.same (U := U) (U' := U.calling g mk a) rfl z0⟩, va_recv hK hP (ci := 13) rfl (q0 := 2) rfl, fun U hU hW => ⟨rfl, by rw [hU], by rw [hU]; exact hPc, va_K.moved hW.alike hKc, hDc.weaken (fun _ _ _ _ => trivial), by rw [hU]; exact EX.warm hW ((hE.kept (fun a h1 h2 => hS.2.1 a h1 h2)).narrow hFc)⟩⟩ rfl rfl hl.1 rfl (lv_room (Nat.le_of_ble_eq_true rfl)) d_CU_name_107 ⟨(by show ((b - a) + 2) ≤ (2 + cns (L.drop a) (nmP (L.drop a))); omega), (by show ((286 * (b - a)) + 164) ≤ (164 + 286 * cns (L.drop a) (nmP (L.drop a))); omega)⟩) hS (fun q _ h => hFc q h) hFc (fun u27 ra30 t H1 locs ht hvm hw29 hB hz1 hk1 hS => ?_)
      obtain ⟨x31, hP1, hK1, hD1⟩ := hB
      rw [ht] at hP1
      have hK1 := va_K.moved hvm.symm hK1
      replace hw29 : ∀ i, i < tx1.length → u27 i = g1 i := hw29
      obtain ⟨hP, hD⟩ := zz_joinN (pre := [(x, .inr (1, [.ref dl, .int (nI L.length), .int (nI b), .ref sb])), (dl, .inl (cC, 160, .inl f)), (sb, .inr (13, [.ref bv1, .int 0, .int ml1, .int (nI tx1.length)])), (bv1, .inl (cB, cap1, .inl g1))]) (fz := fz) (wc := [(sb, .inr (13, [.ref bv1, .int 0, .int ml1, .int (nI tx1.length)])), (bv1, .inl (cB, cap1, .inl g1))]) (wr := [(x, .inr (1, [.ref dl, .int (nI L.length), .int (nI b), .ref sb])), (dl, .inl (cC, 160, .inl f))]) (w1 := [(sb, .inr (13, [.ref bv1, .int 0, .int ml1, .int (nI tx1.length)])), (bv1, .inl (cB, cap1, .inl g1)), (ra30, .inr (15, [.ref x31, .int 0, .int 0, .int 0])), (x31, .inl (cB, tx1.length, .inl u27))]) hP hD [2, 3] [0, 1] rfl rfl (by decide) (by decide) hk1 hFc hP1 hD1
      have hK := (hK.sub (tys' := [(cC, .char)]) [0] rfl).app hK1
      generalize H1 = H at hP hS ⊢
      replace hP : va_P (dC, dI) vwCl ([(x, .inr (1, [.ref dl, .int (nI L.length), .int (nI b), .ref sb])), (dl, .inl (cC, 160, .inl f)), (sb, .inr (13, [.ref bv1, .int 0, .int ml1, .int (nI tx1.length)])), (bv1, .inl (cB, cap1, .inl g1)), (ra30, .inr (15, [.ref x31, .int 0, .int 0, .int 0])), (x31, .inl (cB, tx1.length, .inl u27))] ++ fz) H := hP
      replace hD : va_D A ([(x, .inr (1, [.ref dl, .int (nI L.length), .int (nI b), .ref sb])), (dl, .inl (cC, 160, .inl f)), (sb, .inr (13, [.ref bv1, .int 0, .int ml1, .int (nI tx1.length)])), (bv1, .inl (cB, cap1, .inl g1)), (ra30, .inr (15, [.ref x31, .int 0, .int 0, .int 0])), (x31, .inl (cB, tx1.length, .inl u27))] ++ fz) := hD
      replace hK : va_K (dC, dI) vwCl [(cC, .char), (cB, .byte)] s := hK
      clear hPc hDc hFc hKc hP1 hD1 hK1 hk1 hz1 ht hvm
      have hP9 := zz_pickP (pre := [(x, .inr (1, [.ref dl, .int (nI L.length), .int (nI b), .ref sb])), (dl, .inl (cC, 160, .inl f)), (sb, .inr (13, [.ref bv1, .int 0, .int ml1, .int (nI tx1.length)])), (bv1, .inl (cB, cap1, .inl g1)), (ra30, .inr (15, [.ref x31, .int 0, .int 0, .int 0])), (x31, .inl (cB, tx1.length, .inl u27))]) (fz := fz) (wc := [(x, .inr (1, [.ref dl, .int (nI L.length), .int (nI b), .ref sb])), (dl, .inl (cC, 160, .inl f)), (sb, .inr (13, [.ref bv1, .int 0, .int ml1, .int (nI tx1.length)])), (bv1, .inl (cB, cap1, .inl g1)), (ra30, .inr (15, [.ref x31, .int 0, .int 0, .int 0])), (x31, .inl (cB, tx1.length, .inl u27))]) hP [0, 1, 2, 3, 4, 5] rfl
      have hD9 := zz_pickD (pre := [(x, .inr (1, [.ref dl, .int (nI L.length), .int (nI b), .ref sb])), (dl, .inl (cC, 160, .inl f)), (sb, .inr (13, [.ref bv1, .int 0, .int ml1, .int (nI tx1.length)])), (bv1, .inl (cB, cap1, .inl g1)), (ra30, .inr (15, [.ref x31, .int 0, .int 0, .int 0])), (x31, .inl (cB, tx1.length, .inl u27))]) (fz := fz) (wc := [(x, .inr (1, [.ref dl, .int (nI L.length), .int (nI b), .ref sb])), (dl, .inl (cC, 160, .inl f)), (sb, .inr (13, [.ref bv1, .int 0, .int ml1, .int (nI tx1.length)])), (bv1, .inl (cB, cap1, .inl g1)), (ra30, .inr (15, [.ref x31, .int 0, .int 0, .int 0])), (x31, .inl (cB, tx1.length, .inl u27))]) hD [0, 1, 2, 3, 4, 5] (by decide) rfl
      have hK9 := hK.sub (tys' := [(cC, .char), (cB, .byte)]) [0, 1] rfl
      rw [hQ]
      refine W.widen (k := (2 + cns (L.drop a) (nmP (L.drop a)))) (n := (164 + 286 * cns (L.drop a) (nmP (L.drop a)))) ((by show ((b - a) + 2) ≤ (2 + cns (L.drop a) (nmP (L.drop a))); omega)) ((by show ((286 * (b - a)) + 164) ≤ (164 + 286 * cns (L.drop a) (nmP (L.drop a))); omega)) ?_
      exact W.aret (v := .ref ra30) hx hb hr (Or.inl ⟨_, rfl⟩) (Or.inr ⟨_, rfl⟩) (fun t ht hW => ⟨⟨(some ra30), (b, ml1, tx1, cap1, g1, [(ra30, .inr (15, [.ref x31, .int 0, .int 0, .int 0])), (x31, .inl (cB, tx1.length, .inl u27))]), rfl, ⟨hiB, by omega, by omega, Or.inr ⟨_, _, rfl, hsm, x31, u27, List.mem_cons_self, List.mem_cons_of_mem _ List.mem_cons_self, fun i hi => by rw [hw29 i hi, hiB.2.2.1 i hi], hiB.2.2.2.2, by omega⟩⟩, ⟨bv1, by rw [ht]; exact hP9, va_K.moved hW.alike hK9, hD9⟩⟩, hS.F ht⟩) hS.2.2 d_CU_name_110
    · have h1 : tx1.length = 0 := (nI_eq (by omega) (by decide)).mp h1
      have hno : nmP (L.drop a) = none := by rcases hX with h9 | h9; exact h9.2; (obtain ⟨h8, -⟩ := nmP_ne h9; omega)
      refine lv_null hx hb d_CU_name_99 ?_
      refine lv_goto (tgt := 110) hx hb d_CU_name_100 rfl ?_
      have hP9 := zz_pickP (pre := [(x, .inr (1, [.ref dl, .int (nI L.length), .int (nI b), .ref sb])), (dl, .inl (cC, 160, .inl f)), (sb, .inr (13, [.ref bv1, .int 0, .int ml1, .int (nI tx1.length)])), (bv1, .inl (cB, cap1, .inl g1))]) (fz := fz) (wc := [(x, .inr (1, [.ref dl, .int (nI L.length), .int (nI b), .ref sb])), (dl, .inl (cC, 160, .inl f)), (sb, .inr (13, [.ref bv1, .int 0, .int ml1, .int (nI tx1.length)])), (bv1, .inl (cB, cap1, .inl g1))]) hP [0, 1, 2, 3] rfl
      have hD9 := zz_pickD (pre := [(x, .inr (1, [.ref dl, .int (nI L.length), .int (nI b), .ref sb])), (dl, .inl (cC, 160, .inl f)), (sb, .inr (13, [.ref bv1, .int 0, .int ml1, .int (nI tx1.length)])), (bv1, .inl (cB, cap1, .inl g1))]) (fz := fz) (wc := [(x, .inr (1, [.ref dl, .int (nI L.length), .int (nI b), .ref sb])), (dl, .inl (cC, 160, .inl f)), (sb, .inr (13, [.ref bv1, .int 0, .int ml1, .int (nI tx1.length)])), (bv1, .inl (cB, cap1, .inl g1))]) hD [0, 1, 2, 3] (by decide) rfl
      have hK9 := hK.sub (tys' := [(cC, .char), (cB, .byte)]) [0, 1] rfl
      rw [hQ]
      refine W.widen (k := (2 + cns (L.drop a) (nmP (L.drop a)))) (n := (164 + 286 * cns (L.drop a) (nmP (L.drop a)))) ((by show (b - a) ≤ (2 + cns (L.drop a) (nmP (L.drop a))); omega)) ((by show (286 * (b - a)) ≤ (164 + 286 * cns (L.drop a) (nmP (L.drop a))); omega)) ?_
      exact W.aret (v := .null) hx hb hr (Or.inl ⟨_, rfl⟩) (Or.inl rfl) (fun t ht hW => ⟨⟨none, (b, ml1, tx1, cap1, g1, []), rfl, ⟨hiB, by omega, by omega, Or.inl ⟨rfl, hno, rfl⟩⟩, ⟨bv1, by rw [ht]; exact hP9, va_K.moved hW.alike hK9, hD9⟩⟩, hS.F ht⟩) hS.2.2 d_CU_name_110
  have hloop : ∀ (k9 : Nat) (b : Nat) (bv1 : Nat) (ml1 : Int32) (cap1 : Nat) (g1 : Nat → Int32) (tx1 : List Nat) (H : Heap) (locs : List Loc) (ls : Array Slot), L.length - b = k9 → (a ≤ b) → (b ≤ L.length) → (Bld tx1 cap1 g1) → (tx1.length = b - a) → ((b = a ∧ tx1 = []) ∨ isLet (L.getD a 0) = true) → (nmW (L.drop a) = (tx1 ++ (nmW (L.drop b)).1, (nmW (L.drop b)).2)) → lv_has ls 1 [(0, .ref x)] → va_P (dC, dI) vwCl ([(x, .inr (1, [.ref dl, .int (nI L.length), .int (nI b), .ref sb])), (dl, .inl (cC, 160, .inl f)), (sb, .inr (13, [.ref bv1, .int 0, .int ml1, .int (nI tx1.length)])), (bv1, .inl (cB, cap1, .inl g1))] ++ fz) H → va_D A ([(x, .inr (1, [.ref dl, .int (nI L.length), .int (nI b), .ref sb])), (dl, .inl (cC, 160, .inl f)), (sb, .inr (13, [.ref bv1, .int 0, .int ml1, .int (nI tx1.length)])), (bv1, .inl (cB, cap1, .inl g1))] ++ fz) → va_S A s.heap H locs → W p l e (headSpec ws_CU_name ({ frames := 6, cells := (2 + cns (L.drop a) (nmP (L.drop a))), slots := (164 + 286 * cns (L.drop a) (nmP (L.drop a))), locals := 151 })).room s m args below meth c H locs (b - a) (286 * (b - a)) Q (F0 m 8 ls []) := by
    intro k9
    induction k9 using Nat.strongRecOn with
    | ind k9 ih =>
      intro b bv1 ml1 cap1 g1 tx1 H locs ls hk9 hi0 hi1 hiB hil hi2 hi3 hl hP hD hS
      have hcl := hL.lt b
      have hcs := cns_nm hi3 hi0 hi1
      refine lv_aload_n hx hb d_CU_name_8 rfl (lv_at hl 0 rfl) ?_
      refine va_get (D := (dC, dI)) (ci := 1) (v := .int (nI b)) (C := R_CU) (T := T_CU) (N := 4) hx hb htb in_CU hown hK hP 0 rfl rfl 2 (by decide) (htb _ m_144) (fun _ h9 => h9) rfl d_CU_name_9 ?_
      refine lv_aload_n hx hb d_CU_name_12 rfl (lv_at hl 0 rfl) ?_
      refine va_get (D := (dC, dI)) (ci := 1) (v := .int (nI L.length)) (C := R_CU) (T := T_CU) (N := 4) hx hb htb in_CU hown hK hP 0 rfl rfl 1 (by decide) (htb _ m_143) (fun _ h9 => h9) rfl d_CU_name_13 ?_
      refine lv_icmp_ge (tgt := 89) hx hb d_CU_name_16 rfl (fun h1 => ?_) (fun h1 => ?_)
      · have h1 : L.length ≤ b := (nI_leI (by omega) (by omega)).mp h1
        have hlt := let_0 h1
        have hst := nmW_no (ld_0 h1)
        rw [hst, List.append_nil] at hi3
        exact hjoinX b bv1 ml1 cap1 g1 tx1 _ _ ls (hi0) (hi1) (hiB) (hil) (hcs) (by rcases hi2 with h9 | h9; exact Or.inl ⟨h9.2, nmP_no (by rw [hd_drop, ← h9.1]; exact hlt)⟩; exact Or.inr (by rw [nmP_yes (by rw [hd_drop]; exact h9), hi3])) (lv_sub hl [0] rfl) (zz_pickP (pre := [(x, .inr (1, [.ref dl, .int (nI L.length), .int (nI b), .ref sb])), (dl, .inl (cC, 160, .inl f)), (sb, .inr (13, [.ref bv1, .int 0, .int ml1, .int (nI tx1.length)])), (bv1, .inl (cB, cap1, .inl g1))]) (fz := fz) (wc := [(x, .inr (1, [.ref dl, .int (nI L.length), .int (nI b), .ref sb])), (dl, .inl (cC, 160, .inl f)), (sb, .inr (13, [.ref bv1, .int 0, .int ml1, .int (nI tx1.length)])), (bv1, .inl (cB, cap1, .inl g1))]) hP [0, 1, 2, 3] rfl) (zz_pickD (pre := [(x, .inr (1, [.ref dl, .int (nI L.length), .int (nI b), .ref sb])), (dl, .inl (cC, 160, .inl f)), (sb, .inr (13, [.ref bv1, .int 0, .int ml1, .int (nI tx1.length)])), (bv1, .inl (cB, cap1, .inl g1))]) (fz := fz) (wc := [(x, .inr (1, [.ref dl, .int (nI L.length), .int (nI b), .ref sb])), (dl, .inl (cC, 160, .inl f)), (sb, .inr (13, [.ref bv1, .int 0, .int ml1, .int (nI tx1.length)])), (bv1, .inl (cB, cap1, .inl g1))]) hD [0, 1, 2, 3] (by decide) rfl) hS
      · have h1 : b < L.length := Nat.not_le.mp (fun h => h1 ((nI_leI (by omega) (by omega)).mpr h))
        refine lv_aload_n hx hb d_CU_name_19 rfl (lv_at hl 0 rfl) ?_
        refine va_get (D := (dC, dI)) (ci := 1) (v := .ref dl) (C := R_CU) (T := T_CU) (N := 4) hx hb htb in_CU hown hK hP 0 rfl rfl 0 (by decide) (htb _ m_142) (fun _ h9 => h9) rfl d_CU_name_20 ?_
        refine lv_aload_n hx hb d_CU_name_23 rfl (lv_at hl 0 rfl) ?_
        refine va_get (D := (dC, dI)) (ci := 1) (v := .int (nI b)) (C := R_CU) (T := T_CU) (N := 4) hx hb htb in_CU hown hK hP 0 rfl rfl 2 (by decide) (htb _ m_144) (fun _ h9 => h9) rfl d_CU_name_24 ?_
        refine va_cald hx hb hK hP 1 0 rfl rfl (vp_in_nI (by omega) (by omega)) d_CU_name_27 ?_
        refine W.eq (congrArg (fun z => F0 m 28 ls (.int z :: [])) (by rw [nI_clamp (by omega)]; exact hL.2.2 _ h1 : (f (nI b).toNatClampNeg) = nI (L.getD b 0))) ?_
        have hPc : va_P (dC, dI) vwCl [] _ := hP.sub (ws' := []) [] rfl
        have hKc := hK.sub (tys' := []) [] rfl
        refine vp_callSi (va_Run.run (va_runSN (As := [.int (nI (L.getD b 0))]) (rest := []) ⟨hx, hb, hml, hown, htb⟩ (q_PS_isLetter l dC dI (L.getD b 0) (by omega)) ⟨va_cnB 1 htb (g_all (fun _ h => h) m_924) rfl rfl rfl (nw_8 hE) (htb _ m_1) (by decide +kernel) ⟨Nat.le_of_ble_eq_true rfl, Nat.le_of_ble_eq_true rfl⟩, (htb _ m_923), trivial⟩ ⟨fun a U g mk q => by obtain ⟨q0, qP, qK⟩ := q; exact ⟨q0, qP, va_K.moved (u := U) (U := U.calling g mk a) (Vm.Alike.refl U.vm) qK⟩, fun U hU hW => ⟨rfl, by rw [hU]; exact hPc, va_K.moved hW.alike hKc⟩⟩ rfl rfl hl.1 rfl (lv_room (Nat.le_of_ble_eq_true rfl)) d_CU_name_28 ⟨(by show (b - a) ≤ (2 + cns (L.drop a) (nmP (L.drop a))); omega), (by show (286 * (b - a)) ≤ (164 + 286 * cns (L.drop a) (nmP (L.drop a))); omega)⟩)) (fun r25 hw26 => ?_)
        replace hw26 : r25 = bI (isLet (L.getD b 0)) := hw26
        clear hPc hKc
        refine lv_if_ne (tgt := 59) hx hb d_CU_name_31 rfl (fun h2 => ?_) (fun h2 => ?_)
        · have h2 : isLet (L.getD b 0) = true := bI_ne.mp (show ¬ bI (isLet (L.getD b 0)) = 0 from hw26 ▸ h2)
          obtain ⟨-, hst⟩ := nmW_yes (nm_in h2)
          have hi4 : nmW (L.drop a) = ((tx1 ++ [L.getD b 0]) ++ (nmW (L.drop (b + 1))).1, (nmW (L.drop (b + 1))).2) := by rw [hi3, hst, List.append_assoc]; rfl
          have hcs2 := cns_nm hi4 (by omega) (by omega)
          refine lv_aload_n hx hb d_CU_name_59 rfl (lv_at hl 0 rfl) ?_
          refine va_get (D := (dC, dI)) (ci := 1) (v := .ref sb) (C := R_CU) (T := T_CU) (N := 4) hx hb htb in_CU hown hK hP 0 rfl rfl 3 (by decide) (htb _ m_145) (fun _ h9 => h9) rfl d_CU_name_60 ?_
          refine lv_aload_n hx hb d_CU_name_63 rfl (lv_at hl 0 rfl) ?_
          refine va_get (D := (dC, dI)) (ci := 1) (v := .ref dl) (C := R_CU) (T := T_CU) (N := 4) hx hb htb in_CU hown hK hP 0 rfl rfl 0 (by decide) (htb _ m_142) (fun _ h9 => h9) rfl d_CU_name_64 ?_
          refine lv_aload_n hx hb d_CU_name_67 rfl (lv_at hl 0 rfl) ?_
          refine va_get (D := (dC, dI)) (ci := 1) (v := .int (nI b)) (C := R_CU) (T := T_CU) (N := 4) hx hb htb in_CU hown hK hP 0 rfl rfl 2 (by decide) (htb _ m_144) (fun _ h9 => h9) rfl d_CU_name_68 ?_
          refine va_cald hx hb hK hP 1 0 rfl rfl (vp_in_nI (by omega) (by omega)) d_CU_name_71 ?_
          refine W.eq (congrArg (fun z => F0 m 72 ls (.int z :: [.ref sb])) (by rw [nI_clamp (by omega)]; exact hL.2.2 _ h1 : (f (nI b).toNatClampNeg) = nI (L.getD b 0))) ?_
          have hPc := hP.sub (ws' := [(sb, .inr (13, [.ref bv1, .int 0, .int ml1, .int (nI tx1.length)])), (bv1, .inl (cB, cap1, .inl g1))]) [2, 3] rfl
          have hDc := hD.sub (ws' := [(sb, .inr (13, [.ref bv1, .int 0, .int ml1, .int (nI tx1.length)])), (bv1, .inl (cB, cap1, .inl g1))]) [2, 3] (by decide) rfl
          have hFc := va_free (wc := [(sb, .inr (13, [.ref bv1, .int 0, .int ml1, .int (nI tx1.length)])), (bv1, .inl (cB, cap1, .inl g1))]) hD hS hA [2, 3] rfl
          have hKc := hK.sub (tys' := [(cB, .byte)]) [1] rfl
          refine va_callr (va_runV (As := [.int (nI (L.getD b 0))]) (rest := []) ⟨hx, hb, hml, hown, htb⟩ (k_SB_append l dC dI _ sb bv1 ml1 cB g1 cap1 tx1 (L.getD b 0) em aK aV hiB (by omega) (by omega)) (cwV 1 htb (g_V (fun _ h => h) m_337 m_334 m_335 m_336 m_3) rfl rfl rfl (by decide +kernel) ⟨Nat.le_of_ble_eq_true rfl, Nat.le_of_ble_eq_true rfl⟩) ⟨fun a U g mk q => by obtain ⟨q0, q1, qP, qK, qD, z0⟩ := q; exact ⟨q0, q1, qP, va_K.moved (u := U) (U := U.calling g mk a) (Vm.Alike.refl U.vm) qK, qD, EX.same (U := U) (U' := U.calling g mk a) rfl z0⟩, va_recv hK hP (ci := 13) rfl (q0 := 2) rfl, fun U hU hW => ⟨rfl, by rw [hU], by rw [hU]; exact hPc, va_K.moved hW.alike hKc, hDc.weaken (fun _ _ _ _ => trivial), by rw [hU]; exact EX.warm hW ((hE.kept (fun a h1 h2 => hS.2.1 a h1 h2)).narrow hFc)⟩⟩ rfl rfl hl.1 rfl (lv_room (Nat.le_of_ble_eq_true rfl)) d_CU_name_72 ⟨(by show ((b - a) + 1) ≤ (2 + cns (L.drop a) (nmP (L.drop a))); omega), (by show ((286 * (b - a)) + 286) ≤ (164 + 286 * cns (L.drop a) (nmP (L.drop a))); omega)⟩) hS (fun q _ h => hFc q h) hFc (fun u27 ra30 t H1 locs ht hvm hw29 hB hz1 hk1 hS => ?_)
          obtain ⟨x31, hP1, hK1, hD1⟩ := hB
          rw [ht] at hP1
          have hK1 := va_K.moved hvm.symm hK1
          obtain ⟨w32, w33⟩ := u27
          replace hw29 : Bld (tx1 ++ [(L.getD b 0)]) w32 w33 := hw29
          obtain ⟨hP, hD⟩ := zz_joinN (pre := [(x, .inr (1, [.ref dl, .int (nI L.length), .int (nI b), .ref sb])), (dl, .inl (cC, 160, .inl f)), (sb, .inr (13, [.ref bv1, .int 0, .int ml1, .int (nI tx1.length)])), (bv1, .inl (cB, cap1, .inl g1))]) (fz := fz) (wc := [(sb, .inr (13, [.ref bv1, .int 0, .int ml1, .int (nI tx1.length)])), (bv1, .inl (cB, cap1, .inl g1))]) (wr := [(x, .inr (1, [.ref dl, .int (nI L.length), .int (nI b), .ref sb])), (dl, .inl (cC, 160, .inl f))]) (w1 := [(sb, .inr (13, [.ref x31, .int 0, .int ml1, .int (nI (tx1 ++ [(L.getD b 0)]).length)])), (x31, .inl (cB, w32, .inl w33))]) hP hD [2, 3] [0, 1] rfl rfl (by decide) (by decide) hk1 hFc hP1 hD1
          have hK := (hK.sub (tys' := [(cC, .char)]) [0] rfl).app hK1
          generalize H1 = H at hP hS ⊢
          replace hP : va_P (dC, dI) vwCl ([(x, .inr (1, [.ref dl, .int (nI L.length), .int (nI b), .ref sb])), (dl, .inl (cC, 160, .inl f)), (sb, .inr (13, [.ref x31, .int 0, .int ml1, .int (nI (tx1 ++ [(L.getD b 0)]).length)])), (x31, .inl (cB, w32, .inl w33))] ++ fz) H := hP
          replace hD : va_D A ([(x, .inr (1, [.ref dl, .int (nI L.length), .int (nI b), .ref sb])), (dl, .inl (cC, 160, .inl f)), (sb, .inr (13, [.ref x31, .int 0, .int ml1, .int (nI (tx1 ++ [(L.getD b 0)]).length)])), (x31, .inl (cB, w32, .inl w33))] ++ fz) := hD
          replace hK : va_K (dC, dI) vwCl [(cC, .char), (cB, .byte)] s := hK
          clear hPc hDc hFc hKc hP1 hD1 hK1 hk1 hz1 ht hvm
          refine lv_pop hx hb d_CU_name_75 rfl ?_
          refine lv_aload_n hx hb d_CU_name_76 rfl (lv_at hl 0 rfl) ?_
          refine lv_dup hx hb d_CU_name_77 rfl ?_
          refine va_get (D := (dC, dI)) (ci := 1) (v := .int (nI b)) (C := R_CU) (T := T_CU) (N := 4) hx hb htb in_CU hown hK hP 0 rfl rfl 2 (by decide) (htb _ m_144) (fun _ h9 => h9) rfl d_CU_name_78 ?_
          refine lv_iconst (v := 1) hx hb d_CU_name_81 (by decide) ?_
          refine lv_iadd hx hb d_CU_name_82 ?_
          refine W.eq (congrArg (fun z => F0 m 83 ls (.int z :: [.ref x])) (nI_1 _ : ((nI b) + 1) = nI (b + 1))) ?_
          refine va_put (D := (dC, dI)) (ci := 1) (v := .int (nI (b + 1))) (ty := .int) (C := R_CU) (T := T_CU) (N := 4) hx hb htb in_CU ty_CU ty_CU_ok nm_CU hown hK hP hD hS 0 rfl rfl 2 (by decide) (htb _ m_144) (fun _ h9 => h9) rfl (by decide +kernel) rfl rfl (Nat.le_of_ble_eq_true rfl) d_CU_name_83 (fun H locs hP hD hS => ?_)
          replace hP : va_P (dC, dI) vwCl ([(x, .inr (1, [.ref dl, .int (nI L.length), .int (nI (b + 1)), .ref sb])), (dl, .inl (cC, 160, .inl f)), (sb, .inr (13, [.ref x31, .int 0, .int ml1, .int (nI (tx1 ++ [(L.getD b 0)]).length)])), (x31, .inl (cB, w32, .inl w33))] ++ fz) H := hP
          replace hD : va_D A ([(x, .inr (1, [.ref dl, .int (nI L.length), .int (nI (b + 1)), .ref sb])), (dl, .inl (cC, 160, .inl f)), (sb, .inr (13, [.ref x31, .int 0, .int ml1, .int (nI (tx1 ++ [(L.getD b 0)]).length)])), (x31, .inl (cB, w32, .inl w33))] ++ fz) := hD
          refine lv_goto (tgt := 8) hx hb d_CU_name_86 rfl ?_
          refine W.widen (k := ((b + 1) - a)) (n := (286 * ((b + 1) - a))) (by omega) (by omega) ?_
          exact ih (L.length - (b + 1)) (by omega) (b + 1) x31 ml1 w32 w33 (tx1 ++ [L.getD b 0]) H locs ls rfl (by omega) (by omega) (hw29) (by simp; omega) (Or.inr (by rcases hi2 with h9 | h9; (rw [← h9.1]; exact h2); exact h9)) (hi4) (lv_sub hl [0] rfl) (zz_pickP (pre := [(x, .inr (1, [.ref dl, .int (nI L.length), .int (nI (b + 1)), .ref sb])), (dl, .inl (cC, 160, .inl f)), (sb, .inr (13, [.ref x31, .int 0, .int ml1, .int (nI (tx1 ++ [(L.getD b 0)]).length)])), (x31, .inl (cB, w32, .inl w33))]) (fz := fz) (wc := [(x, .inr (1, [.ref dl, .int (nI L.length), .int (nI (b + 1)), .ref sb])), (dl, .inl (cC, 160, .inl f)), (sb, .inr (13, [.ref x31, .int 0, .int ml1, .int (nI (tx1 ++ [L.getD b 0]).length)])), (x31, .inl (cB, w32, .inl w33))]) hP [0, 1, 2, 3] rfl) (zz_pickD (pre := [(x, .inr (1, [.ref dl, .int (nI L.length), .int (nI (b + 1)), .ref sb])), (dl, .inl (cC, 160, .inl f)), (sb, .inr (13, [.ref x31, .int 0, .int ml1, .int (nI (tx1 ++ [(L.getD b 0)]).length)])), (x31, .inl (cB, w32, .inl w33))]) (fz := fz) (wc := [(x, .inr (1, [.ref dl, .int (nI L.length), .int (nI (b + 1)), .ref sb])), (dl, .inl (cC, 160, .inl f)), (sb, .inr (13, [.ref x31, .int 0, .int ml1, .int (nI (tx1 ++ [L.getD b 0]).length)])), (x31, .inl (cB, w32, .inl w33))]) hD [0, 1, 2, 3] (by decide) rfl) hS
        · have h2 : isLet (L.getD b 0) = false := bI_eq.mp (show bI (isLet (L.getD b 0)) = 0 from hw26 ▸ h2)
          have hlt := h2
          refine lv_aload_n hx hb d_CU_name_34 rfl (lv_at hl 0 rfl) ?_
          refine va_get (D := (dC, dI)) (ci := 1) (v := .ref dl) (C := R_CU) (T := T_CU) (N := 4) hx hb htb in_CU hown hK hP 0 rfl rfl 0 (by decide) (htb _ m_142) (fun _ h9 => h9) rfl d_CU_name_35 ?_
          refine lv_aload_n hx hb d_CU_name_38 rfl (lv_at hl 0 rfl) ?_
          refine va_get (D := (dC, dI)) (ci := 1) (v := .int (nI b)) (C := R_CU) (T := T_CU) (N := 4) hx hb htb in_CU hown hK hP 0 rfl rfl 2 (by decide) (htb _ m_144) (fun _ h9 => h9) rfl d_CU_name_39 ?_
          refine va_cald hx hb hK hP 1 0 rfl rfl (vp_in_nI (by omega) (by omega)) d_CU_name_42 ?_
          refine W.eq (congrArg (fun z => F0 m 43 ls (.int z :: [])) (by rw [nI_clamp (by omega)]; exact hL.2.2 _ h1 : (f (nI b).toNatClampNeg) = nI (L.getD b 0))) ?_
          have hPc : va_P (dC, dI) vwCl [] _ := hP.sub (ws' := []) [] rfl
          have hKc := hK.sub (tys' := []) [] rfl
          refine vp_callSi (va_Run.run (va_runSN (As := [.int (nI (L.getD b 0))]) (rest := []) ⟨hx, hb, hml, hown, htb⟩ (q_PS_isDigit l dC dI (L.getD b 0) (by omega)) ⟨va_cnB 1 htb (g_all (fun _ h => h) m_427) rfl rfl rfl (nw_2 hE) (htb _ m_1) (by decide +kernel) ⟨Nat.le_of_ble_eq_true rfl, Nat.le_of_ble_eq_true rfl⟩, (htb _ m_426), trivial⟩ ⟨fun a U g mk q => by obtain ⟨q0, qP, qK⟩ := q; exact ⟨q0, qP, va_K.moved (u := U) (U := U.calling g mk a) (Vm.Alike.refl U.vm) qK⟩, fun U hU hW => ⟨rfl, by rw [hU]; exact hPc, va_K.moved hW.alike hKc⟩⟩ rfl rfl hl.1 rfl (lv_room (Nat.le_of_ble_eq_true rfl)) d_CU_name_43 ⟨(by show (b - a) ≤ (2 + cns (L.drop a) (nmP (L.drop a))); omega), (by show (286 * (b - a)) ≤ (164 + 286 * cns (L.drop a) (nmP (L.drop a))); omega)⟩)) (fun r27 hw28 => ?_)
          replace hw28 : r27 = bI (isDig (L.getD b 0)) := hw28
          clear hPc hKc
          refine lv_if_eq (tgt := 89) hx hb d_CU_name_46 rfl (fun h3 => ?_) (fun h3 => ?_)
          · have h3 : isDig (L.getD b 0) = false := bI_eq.mp (show bI (isDig (L.getD b 0)) = 0 from hw28 ▸ h3)
            have hst := nmW_no (nm_out h2 h3)
            rw [hst, List.append_nil] at hi3
            exact hjoinX b bv1 ml1 cap1 g1 tx1 _ _ ls (hi0) (hi1) (hiB) (hil) (hcs) (by rcases hi2 with h9 | h9; exact Or.inl ⟨h9.2, nmP_no (by rw [hd_drop, ← h9.1]; exact hlt)⟩; exact Or.inr (by rw [nmP_yes (by rw [hd_drop]; exact h9), hi3])) (lv_sub hl [0] rfl) (zz_pickP (pre := [(x, .inr (1, [.ref dl, .int (nI L.length), .int (nI b), .ref sb])), (dl, .inl (cC, 160, .inl f)), (sb, .inr (13, [.ref bv1, .int 0, .int ml1, .int (nI tx1.length)])), (bv1, .inl (cB, cap1, .inl g1))]) (fz := fz) (wc := [(x, .inr (1, [.ref dl, .int (nI L.length), .int (nI b), .ref sb])), (dl, .inl (cC, 160, .inl f)), (sb, .inr (13, [.ref bv1, .int 0, .int ml1, .int (nI tx1.length)])), (bv1, .inl (cB, cap1, .inl g1))]) hP [0, 1, 2, 3] rfl) (zz_pickD (pre := [(x, .inr (1, [.ref dl, .int (nI L.length), .int (nI b), .ref sb])), (dl, .inl (cC, 160, .inl f)), (sb, .inr (13, [.ref bv1, .int 0, .int ml1, .int (nI tx1.length)])), (bv1, .inl (cB, cap1, .inl g1))]) (fz := fz) (wc := [(x, .inr (1, [.ref dl, .int (nI L.length), .int (nI b), .ref sb])), (dl, .inl (cC, 160, .inl f)), (sb, .inr (13, [.ref bv1, .int 0, .int ml1, .int (nI tx1.length)])), (bv1, .inl (cB, cap1, .inl g1))]) hD [0, 1, 2, 3] (by decide) rfl) hS
          · have h3 : isDig (L.getD b 0) = true := bI_ne.mp (show ¬ bI (isDig (L.getD b 0)) = 0 from hw28 ▸ h3)
            refine lv_aload_n hx hb d_CU_name_49 rfl (lv_at hl 0 rfl) ?_
            refine va_get (D := (dC, dI)) (ci := 1) (v := .ref sb) (C := R_CU) (T := T_CU) (N := 4) hx hb htb in_CU hown hK hP 0 rfl rfl 3 (by decide) (htb _ m_145) (fun _ h9 => h9) rfl d_CU_name_50 ?_
            have hPc : va_P (dC, dI) vwCl [(sb, .inr (13, [.ref bv1, .int 0, .int ml1, .int (nI tx1.length)]))] _ := hP.sub (ws' := [(sb, .inr (13, [.ref bv1, .int 0, .int ml1, .int (nI tx1.length)]))]) [2] rfl
            have hKc := hK.sub (tys' := []) [] rfl
            refine vp_callSi (W.runV (As := []) (rest := []) ⟨hx, hb, hml, hown, htb⟩ (q_SB_length l dC dI sb bv1 ml1 tx1.length ) (cwV 0 htb (g_V (fun _ h => h) m_276 m_925 m_275 m_1604 m_3) rfl rfl rfl (by decide +kernel) ⟨Nat.le_of_ble_eq_true rfl, Nat.le_of_ble_eq_true rfl⟩) ⟨fun a U g mk q => by obtain ⟨q0, qP, qK⟩ := q; exact ⟨q0, qP, va_K.moved (u := U) (U := U.calling g mk a) (Vm.Alike.refl U.vm) qK⟩, va_recv hKc hPc (ci := 13) rfl (q0 := 0) rfl, fun U hU hW => ⟨rfl, by rw [hU]; exact hPc, va_K.moved hW.alike hKc⟩⟩ rfl rfl hl.1 rfl (lv_room (Nat.le_of_ble_eq_true rfl)) d_CU_name_53 ⟨(by show (b - a) ≤ (2 + cns (L.drop a) (nmP (L.drop a))); omega), (by show (286 * (b - a)) ≤ (164 + 286 * cns (L.drop a) (nmP (L.drop a))); omega)⟩) (fun r29 hw30 => ?_)
            replace hw30 : r29 = nI tx1.length := hw30
            clear hPc hKc
            obtain rfl := hw30
            refine lv_if_le (tgt := 89) hx hb d_CU_name_56 rfl (fun h4 => ?_) (fun h4 => ?_)
            · have h4 : tx1.length = 0 := by have := (nI_leI (b := 0) (by omega) (by decide)).mp h4; omega
              have hba : b = a := by omega
              exact hjoinX b bv1 ml1 cap1 g1 tx1 _ _ ls (hi0) (hi1) (hiB) (hil) (hcs) (Or.inl ⟨List.length_eq_zero_iff.mp h4, nmP_no (by rw [hd_drop, ← hba]; exact h2)⟩) (lv_sub hl [0] rfl) (zz_pickP (pre := [(x, .inr (1, [.ref dl, .int (nI L.length), .int (nI b), .ref sb])), (dl, .inl (cC, 160, .inl f)), (sb, .inr (13, [.ref bv1, .int 0, .int ml1, .int (nI tx1.length)])), (bv1, .inl (cB, cap1, .inl g1))]) (fz := fz) (wc := [(x, .inr (1, [.ref dl, .int (nI L.length), .int (nI b), .ref sb])), (dl, .inl (cC, 160, .inl f)), (sb, .inr (13, [.ref bv1, .int 0, .int ml1, .int (nI tx1.length)])), (bv1, .inl (cB, cap1, .inl g1))]) hP [0, 1, 2, 3] rfl) (zz_pickD (pre := [(x, .inr (1, [.ref dl, .int (nI L.length), .int (nI b), .ref sb])), (dl, .inl (cC, 160, .inl f)), (sb, .inr (13, [.ref bv1, .int 0, .int ml1, .int (nI tx1.length)])), (bv1, .inl (cB, cap1, .inl g1))]) (fz := fz) (wc := [(x, .inr (1, [.ref dl, .int (nI L.length), .int (nI b), .ref sb])), (dl, .inl (cC, 160, .inl f)), (sb, .inr (13, [.ref bv1, .int 0, .int ml1, .int (nI tx1.length)])), (bv1, .inl (cB, cap1, .inl g1))]) hD [0, 1, 2, 3] (by decide) rfl) hS
            · have h4 : ¬ tx1.length = 0 := fun h => h4 (by rw [h]; exact Int32.le_refl _)
              obtain ⟨-, hst⟩ := nmW_yes (nm_dg h3)
              have hi4 : nmW (L.drop a) = ((tx1 ++ [L.getD b 0]) ++ (nmW (L.drop (b + 1))).1, (nmW (L.drop (b + 1))).2) := by rw [hi3, hst, List.append_assoc]; rfl
              have hcs2 := cns_nm hi4 (by omega) (by omega)
              refine lv_aload_n hx hb d_CU_name_59 rfl (lv_at hl 0 rfl) ?_
              refine va_get (D := (dC, dI)) (ci := 1) (v := .ref sb) (C := R_CU) (T := T_CU) (N := 4) hx hb htb in_CU hown hK hP 0 rfl rfl 3 (by decide) (htb _ m_145) (fun _ h9 => h9) rfl d_CU_name_60 ?_
              refine lv_aload_n hx hb d_CU_name_63 rfl (lv_at hl 0 rfl) ?_
              refine va_get (D := (dC, dI)) (ci := 1) (v := .ref dl) (C := R_CU) (T := T_CU) (N := 4) hx hb htb in_CU hown hK hP 0 rfl rfl 0 (by decide) (htb _ m_142) (fun _ h9 => h9) rfl d_CU_name_64 ?_
              refine lv_aload_n hx hb d_CU_name_67 rfl (lv_at hl 0 rfl) ?_
              refine va_get (D := (dC, dI)) (ci := 1) (v := .int (nI b)) (C := R_CU) (T := T_CU) (N := 4) hx hb htb in_CU hown hK hP 0 rfl rfl 2 (by decide) (htb _ m_144) (fun _ h9 => h9) rfl d_CU_name_68 ?_
              refine va_cald hx hb hK hP 1 0 rfl rfl (vp_in_nI (by omega) (by omega)) d_CU_name_71 ?_
              refine W.eq (congrArg (fun z => F0 m 72 ls (.int z :: [.ref sb])) (by rw [nI_clamp (by omega)]; exact hL.2.2 _ h1 : (f (nI b).toNatClampNeg) = nI (L.getD b 0))) ?_
              have hPc := hP.sub (ws' := [(sb, .inr (13, [.ref bv1, .int 0, .int ml1, .int (nI tx1.length)])), (bv1, .inl (cB, cap1, .inl g1))]) [2, 3] rfl
              have hDc := hD.sub (ws' := [(sb, .inr (13, [.ref bv1, .int 0, .int ml1, .int (nI tx1.length)])), (bv1, .inl (cB, cap1, .inl g1))]) [2, 3] (by decide) rfl
              have hFc := va_free (wc := [(sb, .inr (13, [.ref bv1, .int 0, .int ml1, .int (nI tx1.length)])), (bv1, .inl (cB, cap1, .inl g1))]) hD hS hA [2, 3] rfl
              have hKc := hK.sub (tys' := [(cB, .byte)]) [1] rfl
              refine va_callr (va_runV (As := [.int (nI (L.getD b 0))]) (rest := []) ⟨hx, hb, hml, hown, htb⟩ (k_SB_append l dC dI _ sb bv1 ml1 cB g1 cap1 tx1 (L.getD b 0) em aK aV hiB (by omega) (by omega)) (cwV 1 htb (g_V (fun _ h => h) m_337 m_334 m_335 m_336 m_3) rfl rfl rfl (by decide +kernel) ⟨Nat.le_of_ble_eq_true rfl, Nat.le_of_ble_eq_true rfl⟩) ⟨fun a U g mk q => by obtain ⟨q0, q1, qP, qK, qD, z0⟩ := q; exact ⟨q0, q1, qP, va_K.moved (u := U) (U := U.calling g mk a) (Vm.Alike.refl U.vm) qK, qD, EX.same (U := U) (U' := U.calling g mk a) rfl z0⟩, va_recv hK hP (ci := 13) rfl (q0 := 2) rfl, fun U hU hW => ⟨rfl, by rw [hU], by rw [hU]; exact hPc, va_K.moved hW.alike hKc, hDc.weaken (fun _ _ _ _ => trivial), by rw [hU]; exact EX.warm hW ((hE.kept (fun a h1 h2 => hS.2.1 a h1 h2)).narrow hFc)⟩⟩ rfl rfl hl.1 rfl (lv_room (Nat.le_of_ble_eq_true rfl)) d_CU_name_72 ⟨(by show ((b - a) + 1) ≤ (2 + cns (L.drop a) (nmP (L.drop a))); omega), (by show ((286 * (b - a)) + 286) ≤ (164 + 286 * cns (L.drop a) (nmP (L.drop a))); omega)⟩) hS (fun q _ h => hFc q h) hFc (fun u31 ra34 t H1 locs ht hvm hw33 hB hz1 hk1 hS => ?_)
              obtain ⟨x35, hP1, hK1, hD1⟩ := hB
              rw [ht] at hP1
              have hK1 := va_K.moved hvm.symm hK1
              obtain ⟨w36, w37⟩ := u31
              replace hw33 : Bld (tx1 ++ [(L.getD b 0)]) w36 w37 := hw33
              obtain ⟨hP, hD⟩ := zz_joinN (pre := [(x, .inr (1, [.ref dl, .int (nI L.length), .int (nI b), .ref sb])), (dl, .inl (cC, 160, .inl f)), (sb, .inr (13, [.ref bv1, .int 0, .int ml1, .int (nI tx1.length)])), (bv1, .inl (cB, cap1, .inl g1))]) (fz := fz) (wc := [(sb, .inr (13, [.ref bv1, .int 0, .int ml1, .int (nI tx1.length)])), (bv1, .inl (cB, cap1, .inl g1))]) (wr := [(x, .inr (1, [.ref dl, .int (nI L.length), .int (nI b), .ref sb])), (dl, .inl (cC, 160, .inl f))]) (w1 := [(sb, .inr (13, [.ref x35, .int 0, .int ml1, .int (nI (tx1 ++ [(L.getD b 0)]).length)])), (x35, .inl (cB, w36, .inl w37))]) hP hD [2, 3] [0, 1] rfl rfl (by decide) (by decide) hk1 hFc hP1 hD1
              have hK := (hK.sub (tys' := [(cC, .char)]) [0] rfl).app hK1
              generalize H1 = H at hP hS ⊢
              replace hP : va_P (dC, dI) vwCl ([(x, .inr (1, [.ref dl, .int (nI L.length), .int (nI b), .ref sb])), (dl, .inl (cC, 160, .inl f)), (sb, .inr (13, [.ref x35, .int 0, .int ml1, .int (nI (tx1 ++ [(L.getD b 0)]).length)])), (x35, .inl (cB, w36, .inl w37))] ++ fz) H := hP
              replace hD : va_D A ([(x, .inr (1, [.ref dl, .int (nI L.length), .int (nI b), .ref sb])), (dl, .inl (cC, 160, .inl f)), (sb, .inr (13, [.ref x35, .int 0, .int ml1, .int (nI (tx1 ++ [(L.getD b 0)]).length)])), (x35, .inl (cB, w36, .inl w37))] ++ fz) := hD
              replace hK : va_K (dC, dI) vwCl [(cC, .char), (cB, .byte)] s := hK
              clear hPc hDc hFc hKc hP1 hD1 hK1 hk1 hz1 ht hvm
              refine lv_pop hx hb d_CU_name_75 rfl ?_
              refine lv_aload_n hx hb d_CU_name_76 rfl (lv_at hl 0 rfl) ?_
              refine lv_dup hx hb d_CU_name_77 rfl ?_
              refine va_get (D := (dC, dI)) (ci := 1) (v := .int (nI b)) (C := R_CU) (T := T_CU) (N := 4) hx hb htb in_CU hown hK hP 0 rfl rfl 2 (by decide) (htb _ m_144) (fun _ h9 => h9) rfl d_CU_name_78 ?_
              refine lv_iconst (v := 1) hx hb d_CU_name_81 (by decide) ?_
              refine lv_iadd hx hb d_CU_name_82 ?_
              refine W.eq (congrArg (fun z => F0 m 83 ls (.int z :: [.ref x])) (nI_1 _ : ((nI b) + 1) = nI (b + 1))) ?_
              refine va_put (D := (dC, dI)) (ci := 1) (v := .int (nI (b + 1))) (ty := .int) (C := R_CU) (T := T_CU) (N := 4) hx hb htb in_CU ty_CU ty_CU_ok nm_CU hown hK hP hD hS 0 rfl rfl 2 (by decide) (htb _ m_144) (fun _ h9 => h9) rfl (by decide +kernel) rfl rfl (Nat.le_of_ble_eq_true rfl) d_CU_name_83 (fun H locs hP hD hS => ?_)
              replace hP : va_P (dC, dI) vwCl ([(x, .inr (1, [.ref dl, .int (nI L.length), .int (nI (b + 1)), .ref sb])), (dl, .inl (cC, 160, .inl f)), (sb, .inr (13, [.ref x35, .int 0, .int ml1, .int (nI (tx1 ++ [(L.getD b 0)]).length)])), (x35, .inl (cB, w36, .inl w37))] ++ fz) H := hP
              replace hD : va_D A ([(x, .inr (1, [.ref dl, .int (nI L.length), .int (nI (b + 1)), .ref sb])), (dl, .inl (cC, 160, .inl f)), (sb, .inr (13, [.ref x35, .int 0, .int ml1, .int (nI (tx1 ++ [(L.getD b 0)]).length)])), (x35, .inl (cB, w36, .inl w37))] ++ fz) := hD
              refine lv_goto (tgt := 8) hx hb d_CU_name_86 rfl ?_
              refine W.widen (k := ((b + 1) - a)) (n := (286 * ((b + 1) - a))) (by omega) (by omega) ?_
              exact ih (L.length - (b + 1)) (by omega) (b + 1) x35 ml1 w36 w37 (tx1 ++ [L.getD b 0]) H locs ls rfl (by omega) (by omega) (hw33) (by simp; omega) (Or.inr (by rcases hi2 with h9 | h9; (rw [h9.2] at h4; exact absurd rfl h4); exact h9)) (hi4) (lv_sub hl [0] rfl) (zz_pickP (pre := [(x, .inr (1, [.ref dl, .int (nI L.length), .int (nI (b + 1)), .ref sb])), (dl, .inl (cC, 160, .inl f)), (sb, .inr (13, [.ref x35, .int 0, .int ml1, .int (nI (tx1 ++ [(L.getD b 0)]).length)])), (x35, .inl (cB, w36, .inl w37))]) (fz := fz) (wc := [(x, .inr (1, [.ref dl, .int (nI L.length), .int (nI (b + 1)), .ref sb])), (dl, .inl (cC, 160, .inl f)), (sb, .inr (13, [.ref x35, .int 0, .int ml1, .int (nI (tx1 ++ [L.getD b 0]).length)])), (x35, .inl (cB, w36, .inl w37))]) hP [0, 1, 2, 3] rfl) (zz_pickD (pre := [(x, .inr (1, [.ref dl, .int (nI L.length), .int (nI (b + 1)), .ref sb])), (dl, .inl (cC, 160, .inl f)), (sb, .inr (13, [.ref x35, .int 0, .int ml1, .int (nI (tx1 ++ [(L.getD b 0)]).length)])), (x35, .inl (cB, w36, .inl w37))]) (fz := fz) (wc := [(x, .inr (1, [.ref dl, .int (nI L.length), .int (nI (b + 1)), .ref sb])), (dl, .inl (cC, 160, .inl f)), (sb, .inr (13, [.ref x35, .int 0, .int ml1, .int (nI (tx1 ++ [L.getD b 0]).length)])), (x35, .inl (cB, w36, .inl w37))]) hD [0, 1, 2, 3] (by decide) rfl) hS
  refine W.widen (k := (a - a)) (n := (286 * (a - a))) (by omega) (by omega) ?_
  exact hloop _ a bv u21 cap g ([]) _ _ ls rfl (Nat.le_refl _) (ha) (bld_nil hB) (by simp) (Or.inl ⟨rfl, rfl⟩) (rfl) (lv_sub hl [0] rfl) (zz_pickP (pre := [(x, .inr (1, [.ref dl, .int (nI L.length), .int (nI a), .ref sb])), (dl, .inl (cC, 160, .inl f)), (sb, .inr (13, [.ref bv, .int 0, .int u21, .int 0])), (bv, .inl (cB, cap, .inl g))]) (fz := fz) (wc := [(x, .inr (1, [.ref dl, .int (nI L.length), .int (nI a), .ref sb])), (dl, .inl (cC, 160, .inl f)), (sb, .inr (13, [.ref bv, .int 0, .int u21, .int (nI ([]).length)])), (bv, .inl (cB, cap, .inl g))]) hP [0, 1, 2, 3] rfl) (zz_pickD (pre := [(x, .inr (1, [.ref dl, .int (nI L.length), .int (nI a), .ref sb])), (dl, .inl (cC, 160, .inl f)), (sb, .inr (13, [.ref bv, .int 0, .int u21, .int 0])), (bv, .inl (cB, cap, .inl g))]) (fz := fz) (wc := [(x, .inr (1, [.ref dl, .int (nI L.length), .int (nI a), .ref sb])), (dl, .inl (cC, 160, .inl f)), (sb, .inr (13, [.ref bv, .int 0, .int u21, .int (nI ([]).length)])), (bv, .inl (cB, cap, .inl g))]) hD [0, 1, 2, 3] (by decide) rfl) hS
set_option maxHeartbeats 1000000 in
set_option maxRecDepth 100000 in
/-- index() -/
theorem k_PR_index (l : Launch) (dC : Nat → ClassId) (dI : Nat → Nat → Nat) (sz : Nat) (pr : Nat) (x : Nat) (dl : Nat) (sb : Nat) (cC : ClassId) (f : Nat → Int32) (L : List Nat) (a : Nat) (em : Nat) (aK : Nat → Nat) (aV : Nat → Nat) (fz : va_W) (hL : Drf L f) (ha : a ≤ L.length) : Met l y_PR_index ws_PR_index ({ frames := 1, cells := 0, slots := 0, locals := 21 }) (va_Pc [.ref pr] (fun U => U.heap.size = sz ∧ va_P (dC, dI) vwCl ([(pr, .inr (7, [.ref x])), (x, .inr (1, [.ref dl, .int (nI L.length), .int (nI a), .ref sb])), (dl, .inl (cC, 160, .inl f))] ++ fz) U.heap ∧ va_K (dC, dI) vwCl [(cC, .char)] U ∧ va_D (fun _ => True) ([(pr, .inr (7, [.ref x])), (x, .inr (1, [.ref dl, .int (nI L.length), .int (nI a), .ref sb])), (dl, .inl (cC, 160, .inl f))] ++ fz) ∧ EX em aK aV (va_A ([(pr, .inr (7, [.ref x])), (x, .inr (1, [.ref dl, .int (nI L.length), .int (nI a), .ref sb])), (dl, .inl (cC, 160, .inl f))] ++ fz) sz) U U.heap)) (va_Qi (fun (r : Int32) (u : Nat) => a ≤ u ∧ u ≤ L.length ∧ ((ixp (L.drop a) = none ∧ r = 1001) ∨ (∃ o8 : Option Int, ixp (L.drop a) = some (o8, L.drop u) ∧ r = ixI o8 ∧ (∀ v8, o8 = some v8 → -999 ≤ v8 ∧ v8 ≤ 999)))) (fun u t => va_P (dC, dI) vwCl ([(pr, .inr (7, [.ref x])), (x, .inr (1, [.ref dl, .int (nI L.length), .int (nI u), .ref sb])), (dl, .inl (cC, 160, .inl f))] ++ fz) t.heap ∧ va_K (dC, dI) vwCl [(cC, .char)] t ∧ va_D (va_A ([(pr, .inr (7, [.ref x])), (x, .inr (1, [.ref dl, .int (nI L.length), .int (nI a), .ref sb])), (dl, .inl (cC, 160, .inl f))] ++ fz) sz) ([(pr, .inr (7, [.ref x])), (x, .inr (1, [.ref dl, .int (nI L.length), .int (nI u), .ref sb])), (dl, .inl (cC, 160, .inl f))] ++ fz)) (va_A ([(pr, .inr (7, [.ref x])), (x, .inr (1, [.ref dl, .int (nI L.length), .int (nI a), .ref sb])), (dl, .inl (cC, 160, .inl f))] ++ fz) sz)) 0 0 (va_A ([(pr, .inr (7, [.ref x])), (x, .inr (1, [.ref dl, .int (nI L.length), .int (nI a), .ref sb])), (dl, .inl (cC, 160, .inl f))] ++ fz) sz) := by
  refine Met.ofW (cc := c_PR_index) (maxL := 5) (ret := (some .int)) (by decide) rfl ?_
  intro p e s m args below meth c s₁ B hml hv
  obtain ⟨hargs, hsz, hP, hK, hD0, hE⟩ := hv
  rw [show entryFrame m args 5 = entryFrame m ([.ref pr]).toArray 5 by rw [hargs]]
  have hx := B.exec
  have hb := B.bytes
  have hr := B.returns
  have hts := atoms_spec (ws := ws_PR_index) B.pre
  have htb := fun w (h : w ∈ TBL) => hts w (List.mem_cons_of_mem _ h)
  have hown : s.vm.findClass R_PR = some m.cls := findClass_of_methodNamed B.named
  have hlocks := B.notSynchronized
  subst hsz
  have hD := hD0.self (sz := s.heap.size)
  generalize hAe : va_A ([(pr, .inr (7, [.ref x])), (x, .inr (1, [.ref dl, .int (nI L.length), .int (nI a), .ref sb])), (dl, .inl (cC, 160, .inl f))] ++ fz) s.heap.size = A at hD hE ⊢
  have hA : ∀ q : Nat, s.heap.size ≤ q → A q := fun q h => by rw [← hAe]; exact Or.inr h
  have hS : va_S A s.heap s.heap [] := va_S.rf
  have hP : va_P (dC, dI) vwCl ([(pr, .inr (7, [.ref x])), (x, .inr (1, [.ref dl, .int (nI L.length), .int (nI a), .ref sb])), (dl, .inl (cC, 160, .inl f))] ++ fz) s.heap := hP
  have hl := lv_entry ([.ref pr]) (n := 5) (Nat.le_of_ble_eq_true rfl)
  rw [lg_entry_eq]
  generalize (lg_sl ([.ref pr]) ++ List.replicate (5 - (lg_sl ([.ref pr])).length) Slot.unset).toArray = ls at hl ⊢
  replace hl : lv_has ls 5 [(0, .ref pr)] := hl
  refine zz_nQ (fun Q hQ => ?_)
  have h160 : L.length ≤ 160 := hL.1
  have hcl := hL.lt a
  have hda : hd0 (L.drop a) = L.getD a 0 := hd_drop
  refine lv_aload_n hx hb d_PR_index_0 rfl (lv_at hl 0 rfl) ?_
  refine va_get (D := (dC, dI)) (ci := 7) (v := .ref x) (C := R_PR) (T := T_PR) (N := 1) hx hb htb in_PR hown hK hP 0 rfl rfl 0 (by decide) (htb _ m_852) (fun _ h9 => h9) rfl d_PR_index_1 ?_
  refine lv_bipush (v := 48) hx hb d_PR_index_4 (by decide) ?_
  have hPc := hP.sub (ws' := [(x, .inr (1, [.ref dl, .int (nI L.length), .int (nI a), .ref sb])), (dl, .inl (cC, 160, .inl f))]) [1, 2] rfl
  have hDc := hD.sub (ws' := [(x, .inr (1, [.ref dl, .int (nI L.length), .int (nI a), .ref sb])), (dl, .inl (cC, 160, .inl f))]) [1, 2] (by decide) rfl
  have hFc := va_free (wc := [(x, .inr (1, [.ref dl, .int (nI L.length), .int (nI a), .ref sb])), (dl, .inl (cC, 160, .inl f))]) hD hS hA [1, 2] rfl
  have hKc := hK.sub (tys' := [(cC, .char)]) [0] rfl
  refine va_calli (va_runV (As := [.int (nI 48)]) (rest := []) ⟨hx, hb, hml, hown, htb⟩ (k_CU_took l dC dI _ x dl sb cC f L a 48 hL (by omega) (by decide) (by decide)) (cwV 1 htb (g_V (fun _ h => h) m_435 m_860 m_433 m_434 m_10) rfl rfl rfl (by decide +kernel) ⟨Nat.le_of_ble_eq_true rfl, Nat.le_of_ble_eq_true rfl⟩) ⟨fun a U g mk q => by obtain ⟨q0, q1, qP, qK, qD⟩ := q; exact ⟨q0, q1, qP, va_K.moved (u := U) (U := U.calling g mk a) (Vm.Alike.refl U.vm) qK, qD⟩, va_recv hK hP (ci := 1) rfl (q0 := 1) rfl, fun U hU hW => ⟨rfl, by rw [hU], by rw [hU]; exact hPc, va_K.moved hW.alike hKc, hDc.weaken (fun _ _ _ _ => trivial)⟩⟩ rfl rfl hl.1 rfl (lv_room (Nat.le_of_ble_eq_true rfl)) d_PR_index_6 ⟨Nat.le_of_ble_eq_true rfl, Nat.le_of_ble_eq_true rfl⟩) hS (fun q _ h => hFc q h) hFc (fun r22 u21 t H1 locs ht hvm hw23 hB hz1 hk1 hS => ?_)
  obtain ⟨hP1, hK1, hD1⟩ := hB
  rw [ht] at hP1
  have hK1 := va_K.moved hvm.symm hK1
  replace hw23 : (r22 = 1 ∧ L.getD a 0 = 48 ∧ a < L.length ∧ u21 = a + 1) ∨ (r22 = 0 ∧ L.getD a 0 ≠ 48 ∧ u21 = a) := hw23
  obtain ⟨hP, hD⟩ := zz_joinN (pre := [(pr, .inr (7, [.ref x])), (x, .inr (1, [.ref dl, .int (nI L.length), .int (nI a), .ref sb])), (dl, .inl (cC, 160, .inl f))]) (fz := fz) (wc := [(x, .inr (1, [.ref dl, .int (nI L.length), .int (nI a), .ref sb])), (dl, .inl (cC, 160, .inl f))]) (wr := [(pr, .inr (7, [.ref x]))]) (w1 := [(x, .inr (1, [.ref dl, .int (nI L.length), .int (nI u21), .ref sb])), (dl, .inl (cC, 160, .inl f))]) hP hD [1, 2] [0] rfl rfl (by decide) (by decide) hk1 hFc hP1 hD1
  have hK := (hK.sub (tys' := []) [] rfl).app hK1
  generalize H1 = H at hP hS ⊢
  replace hP : va_P (dC, dI) vwCl ([(pr, .inr (7, [.ref x])), (x, .inr (1, [.ref dl, .int (nI L.length), .int (nI u21), .ref sb])), (dl, .inl (cC, 160, .inl f))] ++ fz) H := hP
  replace hD : va_D A ([(pr, .inr (7, [.ref x])), (x, .inr (1, [.ref dl, .int (nI L.length), .int (nI u21), .ref sb])), (dl, .inl (cC, 160, .inl f))] ++ fz) := hD
  replace hK : va_K (dC, dI) vwCl [(cC, .char)] s := hK
  clear hPc hDc hFc hKc hP1 hD1 hK1 hk1 hz1 ht hvm
  rcases hw23 with ⟨rfl, gg25, gl26, hab27⟩ | ⟨rfl, gg25, hab27⟩
  · rw [hab27] at hP hD
    replace hP : va_P (dC, dI) vwCl ([(pr, .inr (7, [.ref x])), (x, .inr (1, [.ref dl, .int (nI L.length), .int (nI (a + 1)), .ref sb])), (dl, .inl (cC, 160, .inl f))] ++ fz) H := hP
    replace hD : va_D A ([(pr, .inr (7, [.ref x])), (x, .inr (1, [.ref dl, .int (nI L.length), .int (nI (a + 1)), .ref sb])), (dl, .inl (cC, 160, .inl f))] ++ fz) := hD
    refine lv_if_eq (tgt := 14) hx hb d_PR_index_9 rfl (fun h9 => absurd h9 (by decide)) (fun _ => ?_)
    refine lv_iconst (v := 0) hx hb d_PR_index_12 (by decide) ?_
    have hP9 := zz_pickP (pre := [(pr, .inr (7, [.ref x])), (x, .inr (1, [.ref dl, .int (nI L.length), .int (nI (a + 1)), .ref sb])), (dl, .inl (cC, 160, .inl f))]) (fz := fz) (wc := [(pr, .inr (7, [.ref x])), (x, .inr (1, [.ref dl, .int (nI L.length), .int (nI (a + 1)), .ref sb])), (dl, .inl (cC, 160, .inl f))]) hP [0, 1, 2] rfl
    have hD9 := zz_pickD (pre := [(pr, .inr (7, [.ref x])), (x, .inr (1, [.ref dl, .int (nI L.length), .int (nI (a + 1)), .ref sb])), (dl, .inl (cC, 160, .inl f))]) (fz := fz) (wc := [(pr, .inr (7, [.ref x])), (x, .inr (1, [.ref dl, .int (nI L.length), .int (nI (a + 1)), .ref sb])), (dl, .inl (cC, 160, .inl f))]) hD [0, 1, 2] (by decide) rfl
    have hK9 := hK.sub (tys' := [(cC, .char)]) [0] rfl
    rw [hQ]
    refine W.widen (k := 0) (n := 0) (Nat.le_of_ble_eq_true rfl) (Nat.le_of_ble_eq_true rfl) ?_
    exact W.iret (v := 0) hx hb hr (fun t ht hW => ⟨⟨0, (a + 1), rfl, ⟨by omega, by omega, Or.inr ⟨some 0, ixp_p1 gg25, rfl, fun v8 h => by cases h; exact ⟨by decide, by decide⟩⟩⟩, ⟨by rw [ht]; exact hP9, va_K.moved hW.alike hK9, hD9⟩⟩, hS.F ht⟩) hS.2.2 d_PR_index_13
  · rw [hab27] at hP hD
    replace hP : va_P (dC, dI) vwCl ([(pr, .inr (7, [.ref x])), (x, .inr (1, [.ref dl, .int (nI L.length), .int (nI a), .ref sb])), (dl, .inl (cC, 160, .inl f))] ++ fz) H := hP
    replace hD : va_D A ([(pr, .inr (7, [.ref x])), (x, .inr (1, [.ref dl, .int (nI L.length), .int (nI a), .ref sb])), (dl, .inl (cC, 160, .inl f))] ++ fz) := hD
    refine lv_if_eq (tgt := 14) hx hb d_PR_index_9 rfl (fun _ => ?_) (fun h9 => absurd (rfl) h9)
    refine lv_aload_n hx hb d_PR_index_14 rfl (lv_at hl 0 rfl) ?_
    refine va_get (D := (dC, dI)) (ci := 7) (v := .ref x) (C := R_PR) (T := T_PR) (N := 1) hx hb htb in_PR hown hK hP 0 rfl rfl 0 (by decide) (htb _ m_852) (fun _ h9 => h9) rfl d_PR_index_15 ?_
    refine lv_bipush (v := 45) hx hb d_PR_index_18 (by decide) ?_
    have hPc := hP.sub (ws' := [(x, .inr (1, [.ref dl, .int (nI L.length), .int (nI a), .ref sb])), (dl, .inl (cC, 160, .inl f))]) [1, 2] rfl
    have hDc := hD.sub (ws' := [(x, .inr (1, [.ref dl, .int (nI L.length), .int (nI a), .ref sb])), (dl, .inl (cC, 160, .inl f))]) [1, 2] (by decide) rfl
    have hFc := va_free (wc := [(x, .inr (1, [.ref dl, .int (nI L.length), .int (nI a), .ref sb])), (dl, .inl (cC, 160, .inl f))]) hD hS hA [1, 2] rfl
    have hKc := hK.sub (tys' := [(cC, .char)]) [0] rfl
    refine va_calli (va_runV (As := [.int (nI 45)]) (rest := []) ⟨hx, hb, hml, hown, htb⟩ (k_CU_took l dC dI _ x dl sb cC f L a 45 hL (by omega) (by decide) (by decide)) (cwV 1 htb (g_V (fun _ h => h) m_435 m_860 m_433 m_434 m_10) rfl rfl rfl (by decide +kernel) ⟨Nat.le_of_ble_eq_true rfl, Nat.le_of_ble_eq_true rfl⟩) ⟨fun a U g mk q => by obtain ⟨q0, q1, qP, qK, qD⟩ := q; exact ⟨q0, q1, qP, va_K.moved (u := U) (U := U.calling g mk a) (Vm.Alike.refl U.vm) qK, qD⟩, va_recv hK hP (ci := 1) rfl (q0 := 1) rfl, fun U hU hW => ⟨rfl, by rw [hU], by rw [hU]; exact hPc, va_K.moved hW.alike hKc, hDc.weaken (fun _ _ _ _ => trivial)⟩⟩ rfl rfl hl.1 rfl (lv_room (Nat.le_of_ble_eq_true rfl)) d_PR_index_20 ⟨Nat.le_of_ble_eq_true rfl, Nat.le_of_ble_eq_true rfl⟩) hS (fun q _ h => hFc q h) hFc (fun r29 u28 t H1 locs ht hvm hw30 hB hz1 hk1 hS => ?_)
    obtain ⟨hP1, hK1, hD1⟩ := hB
    rw [ht] at hP1
    have hK1 := va_K.moved hvm.symm hK1
    replace hw30 : (r29 = 1 ∧ L.getD a 0 = 45 ∧ a < L.length ∧ u28 = a + 1) ∨ (r29 = 0 ∧ L.getD a 0 ≠ 45 ∧ u28 = a) := hw30
    obtain ⟨hP, hD⟩ := zz_joinN (pre := [(pr, .inr (7, [.ref x])), (x, .inr (1, [.ref dl, .int (nI L.length), .int (nI a), .ref sb])), (dl, .inl (cC, 160, .inl f))]) (fz := fz) (wc := [(x, .inr (1, [.ref dl, .int (nI L.length), .int (nI a), .ref sb])), (dl, .inl (cC, 160, .inl f))]) (wr := [(pr, .inr (7, [.ref x]))]) (w1 := [(x, .inr (1, [.ref dl, .int (nI L.length), .int (nI u28), .ref sb])), (dl, .inl (cC, 160, .inl f))]) hP hD [1, 2] [0] rfl rfl (by decide) (by decide) hk1 hFc hP1 hD1
    have hK := (hK.sub (tys' := []) [] rfl).app hK1
    generalize H1 = H at hP hS ⊢
    replace hP : va_P (dC, dI) vwCl ([(pr, .inr (7, [.ref x])), (x, .inr (1, [.ref dl, .int (nI L.length), .int (nI u28), .ref sb])), (dl, .inl (cC, 160, .inl f))] ++ fz) H := hP
    replace hD : va_D A ([(pr, .inr (7, [.ref x])), (x, .inr (1, [.ref dl, .int (nI L.length), .int (nI u28), .ref sb])), (dl, .inl (cC, 160, .inl f))] ++ fz) := hD
    replace hK : va_K (dC, dI) vwCl [(cC, .char)] s := hK
    clear hPc hDc hFc hKc hP1 hD1 hK1 hk1 hz1 ht hvm
    rcases hw30 with ⟨rfl, gg32, gl33, hab34⟩ | ⟨rfl, gg32, hab34⟩
    · rw [hab34] at hP hD
      replace hP : va_P (dC, dI) vwCl ([(pr, .inr (7, [.ref x])), (x, .inr (1, [.ref dl, .int (nI L.length), .int (nI (a + 1)), .ref sb])), (dl, .inl (cC, 160, .inl f))] ++ fz) H := hP
      replace hD : va_D A ([(pr, .inr (7, [.ref x])), (x, .inr (1, [.ref dl, .int (nI L.length), .int (nI (a + 1)), .ref sb])), (dl, .inl (cC, 160, .inl f))] ++ fz) := hD
      have hm45 : hd0 (L.drop a) = 45 := by rw [hd_drop]; exact gg32
      refine lv_istore_n hx hb d_PR_index_23 rfl hl (by decide) rfl (fun ls hl => ?_)
      replace hl : lv_has ls 5 [(1, .int 1), (0, .ref pr)] := hl
      refine lv_iconst (v := 0) hx hb d_PR_index_24 (by decide) ?_
      refine lv_istore_n hx hb d_PR_index_25 rfl hl (by decide) rfl (fun ls hl => ?_)
      replace hl : lv_has ls 5 [(2, .int 0), (1, .int 1), (0, .ref pr)] := hl
      refine lv_iconst (v := 0) hx hb d_PR_index_26 (by decide) ?_
      refine lv_istore_n hx hb d_PR_index_27 rfl hl (by decide) rfl (fun ls hl => ?_)
      replace hl : lv_has ls 5 [(3, .int 0), (2, .int 0), (1, .int 1), (0, .ref pr)] := hl
      replace hl : lv_has ls 5 [(3, .int (nI 0)), (2, .int (nI 0)), (1, .int 1), (0, .ref pr)] := hl
      have hjoinX : ∀ (b : Nat) (nn : Nat) (vv : Nat) (H : Heap) (locs : List Loc) (ls : Array Slot), (b ≤ L.length) → (vv < 1000) → ((vv = 0 ∧ b = (a + 1) ∧ isDig (L.getD (a + 1) 0) = false) ∨ (0 < vv ∧ vv < 1000 ∧ isDig (L.getD (a + 1) 0) = true ∧ ¬ L.getD (a + 1) 0 = 48 ∧ dg 3 0 (L.drop (a + 1)) = (vv, L.drop b) ∧ (a + 1) ≤ b)) → lv_has ls 5 [(3, .int (nI nn)), (2, .int (nI vv)), (1, .int 1), (0, .ref pr)] → va_P (dC, dI) vwCl ([(pr, .inr (7, [.ref x])), (x, .inr (1, [.ref dl, .int (nI L.length), .int (nI b), .ref sb])), (dl, .inl (cC, 160, .inl f))] ++ fz) H → va_D A ([(pr, .inr (7, [.ref x])), (x, .inr (1, [.ref dl, .int (nI L.length), .int (nI b), .ref sb])), (dl, .inl (cC, 160, .inl f))] ++ fz) → va_S A s.heap H locs → W p l e (headSpec ws_PR_index ({ frames := 1, cells := 0, slots := 0, locals := 21 })).room s m args below meth c H locs 0 0 Q (F0 m 97 ls []) := by
        intro b nn vv H locs ls hbl hvv hres hl hP hD hS
        refine lv_iload_n hx hb d_PR_index_97 rfl (lv_at hl 1 rfl) ?_
        refine lv_if_ne (tgt := 115) hx hb d_PR_index_98 rfl (fun h1 => ?_) (fun h1 => ?_)
        · have h1 : ¬ vv = 0 := fun h => h1 (by rw [h]; rfl)
          obtain ⟨hv1, hv2, hv3, hv4, hv5, hv6⟩ := hres.resolve_left (fun h => h1 h.1)
          refine lv_iload_n hx hb d_PR_index_115 rfl (lv_at hl 2 rfl) ?_
          refine lv_if_eq (tgt := 124) hx hb d_PR_index_116 rfl (fun h9 => absurd h9 (by decide)) (fun _ => ?_)
          refine lv_iload_n hx hb d_PR_index_119 rfl (lv_at hl 1 rfl) ?_
          refine lv_ineg hx hb d_PR_index_120 ?_
          refine lv_goto (tgt := 125) hx hb d_PR_index_121 rfl ?_
          refine W.eq (congrArg (fun z => F0 m 125 ls (.int z :: [])) (iI_neg vv : (- (nI vv)) = iI (-(vv : Int)))) ?_
          have hP9 := zz_pickP (pre := [(pr, .inr (7, [.ref x])), (x, .inr (1, [.ref dl, .int (nI L.length), .int (nI b), .ref sb])), (dl, .inl (cC, 160, .inl f))]) (fz := fz) (wc := [(pr, .inr (7, [.ref x])), (x, .inr (1, [.ref dl, .int (nI L.length), .int (nI b), .ref sb])), (dl, .inl (cC, 160, .inl f))]) hP [0, 1, 2] rfl
          have hD9 := zz_pickD (pre := [(pr, .inr (7, [.ref x])), (x, .inr (1, [.ref dl, .int (nI L.length), .int (nI b), .ref sb])), (dl, .inl (cC, 160, .inl f))]) (fz := fz) (wc := [(pr, .inr (7, [.ref x])), (x, .inr (1, [.ref dl, .int (nI L.length), .int (nI b), .ref sb])), (dl, .inl (cC, 160, .inl f))]) hD [0, 1, 2] (by decide) rfl
          have hK9 := hK.sub (tys' := [(cC, .char)]) [0] rfl
          rw [hQ]
          refine W.widen (k := 0) (n := 0) (Nat.le_of_ble_eq_true rfl) (Nat.le_of_ble_eq_true rfl) ?_
          exact W.iret (v := (iI (-(vv : Int)))) hx hb hr (fun t ht hW => ⟨⟨(iI (-(vv : Int))), b, rfl, ⟨by omega, by omega, Or.inr ⟨some (-(vv : Int)), ixp_m2 hm45 hv3 hv4 hv5, rfl, fun v8 h => by cases h; exact ⟨by omega, by omega⟩⟩⟩, ⟨by rw [ht]; exact hP9, va_K.moved hW.alike hK9, hD9⟩⟩, hS.F ht⟩) hS.2.2 d_PR_index_125
        · have h1 : vv = 0 := (nI_eq (by omega) (by decide)).mp h1
          obtain ⟨-, hb0, hd0⟩ := hres.resolve_right (fun h => by omega)
          refine lv_iload_n hx hb d_PR_index_101 rfl (lv_at hl 2 rfl) ?_
          refine lv_if_eq (tgt := 111) hx hb d_PR_index_102 rfl (fun h9 => absurd h9 (by decide)) (fun _ => ?_)
          refine lv_sipush (v := 1001) hx hb d_PR_index_105 (by decide) ?_
          refine lv_goto (tgt := 114) hx hb d_PR_index_108 rfl ?_
          have hP9 := zz_pickP (pre := [(pr, .inr (7, [.ref x])), (x, .inr (1, [.ref dl, .int (nI L.length), .int (nI b), .ref sb])), (dl, .inl (cC, 160, .inl f))]) (fz := fz) (wc := [(pr, .inr (7, [.ref x])), (x, .inr (1, [.ref dl, .int (nI L.length), .int (nI b), .ref sb])), (dl, .inl (cC, 160, .inl f))]) hP [0, 1, 2] rfl
          have hD9 := zz_pickD (pre := [(pr, .inr (7, [.ref x])), (x, .inr (1, [.ref dl, .int (nI L.length), .int (nI b), .ref sb])), (dl, .inl (cC, 160, .inl f))]) (fz := fz) (wc := [(pr, .inr (7, [.ref x])), (x, .inr (1, [.ref dl, .int (nI L.length), .int (nI b), .ref sb])), (dl, .inl (cC, 160, .inl f))]) hD [0, 1, 2] (by decide) rfl
          have hK9 := hK.sub (tys' := [(cC, .char)]) [0] rfl
          rw [hQ]
          refine W.widen (k := 0) (n := 0) (Nat.le_of_ble_eq_true rfl) (Nat.le_of_ble_eq_true rfl) ?_
          exact W.iret (v := 1001) hx hb hr (fun t ht hW => ⟨⟨1001, b, rfl, ⟨by omega, by omega, Or.inl ⟨ixp_m0 hm45 hd0, rfl⟩⟩, ⟨by rw [ht]; exact hP9, va_K.moved hW.alike hK9, hD9⟩⟩, hS.F ht⟩) hS.2.2 d_PR_index_114
      have hloop : ∀ (k9 : Nat) (b : Nat) (nn : Nat) (vv : Nat) (H : Heap) (locs : List Loc) (ls : Array Slot), 3 - nn = k9 → (b ≤ L.length) → ((nn = 0 ∧ vv = 0 ∧ b = (a + 1)) ∨ (1 ≤ nn ∧ nn ≤ 3 ∧ 0 < vv ∧ vv < 10 ^ nn ∧ isDig (L.getD (a + 1) 0) = true ∧ ¬ L.getD (a + 1) 0 = 48 ∧ dg 3 0 (L.drop (a + 1)) = dg (3 - nn) vv (L.drop b) ∧ (a + 1) ≤ b)) → lv_has ls 5 [(3, .int (nI nn)), (2, .int (nI vv)), (1, .int 1), (0, .ref pr)] → va_P (dC, dI) vwCl ([(pr, .inr (7, [.ref x])), (x, .inr (1, [.ref dl, .int (nI L.length), .int (nI b), .ref sb])), (dl, .inl (cC, 160, .inl f))] ++ fz) H → va_D A ([(pr, .inr (7, [.ref x])), (x, .inr (1, [.ref dl, .int (nI L.length), .int (nI b), .ref sb])), (dl, .inl (cC, 160, .inl f))] ++ fz) → va_S A s.heap H locs → W p l e (headSpec ws_PR_index ({ frames := 1, cells := 0, slots := 0, locals := 21 })).room s m args below meth c H locs 0 0 Q (F0 m 28 ls []) := by
        intro k9
        induction k9 using Nat.strongRecOn with
        | ind k9 ih =>
          intro b nn vv H locs ls hk9 hbl hinv hl hP hD hS
          have hcb : L.getD b 0 < 127 := hL.lt b
          have hnb : nn ≤ 3 := by omega
          have hvb : vv < 1000 := by rcases hinv with h | h; omega; (have := Nat.pow_le_pow_right (n := 10) (by decide) h.2.1; omega)
          refine lv_iload_n hx hb d_PR_index_28 rfl (lv_at hl 0 rfl) ?_
          refine lv_iconst (v := 3) hx hb d_PR_index_29 (by decide) ?_
          refine lv_icmp_ge (tgt := 97) hx hb d_PR_index_30 rfl (fun h4 => ?_) (fun h4 => ?_)
          · have h4 : nn = 3 := by have := (nI_leI (a := 3) (by decide) (by omega)).mp h4; omega
            exact hjoinX b nn vv _ _ ls (hbl) (hvb) (by rcases hinv with h | h; omega; exact Or.inr ⟨h.2.2.1, hvb, h.2.2.2.2.1, h.2.2.2.2.2.1, by rw [h.2.2.2.2.2.2.1, h4]; rfl, h.2.2.2.2.2.2.2⟩) (lv_sub hl [0, 1, 2, 3] rfl) (zz_pickP (pre := [(pr, .inr (7, [.ref x])), (x, .inr (1, [.ref dl, .int (nI L.length), .int (nI b), .ref sb])), (dl, .inl (cC, 160, .inl f))]) (fz := fz) (wc := [(pr, .inr (7, [.ref x])), (x, .inr (1, [.ref dl, .int (nI L.length), .int (nI b), .ref sb])), (dl, .inl (cC, 160, .inl f))]) hP [0, 1, 2] rfl) (zz_pickD (pre := [(pr, .inr (7, [.ref x])), (x, .inr (1, [.ref dl, .int (nI L.length), .int (nI b), .ref sb])), (dl, .inl (cC, 160, .inl f))]) (fz := fz) (wc := [(pr, .inr (7, [.ref x])), (x, .inr (1, [.ref dl, .int (nI L.length), .int (nI b), .ref sb])), (dl, .inl (cC, 160, .inl f))]) hD [0, 1, 2] (by decide) rfl) hS
          · have h4 : nn < 3 := Nat.not_le.mp (fun h => h4 ((nI_leI (a := 3) (by decide) (by omega)).mpr h))
            refine lv_aload_n hx hb d_PR_index_33 rfl (lv_at hl 3 rfl) ?_
            refine va_get (D := (dC, dI)) (ci := 7) (v := .ref x) (C := R_PR) (T := T_PR) (N := 1) hx hb htb in_PR hown hK hP 0 rfl rfl 0 (by decide) (htb _ m_852) (fun _ h9 => h9) rfl d_PR_index_34 ?_
            have hPc : va_P (dC, dI) vwCl [(x, .inr (1, [.ref dl, .int (nI L.length), .int (nI b), .ref sb])), (dl, .inl (cC, 160, .inl f))] _ := hP.sub (ws' := [(x, .inr (1, [.ref dl, .int (nI L.length), .int (nI b), .ref sb])), (dl, .inl (cC, 160, .inl f))]) [1, 2] rfl
            have hKc := hK.sub (tys' := [(cC, .char)]) [0] rfl
            refine vp_callSi (W.runV (As := []) (rest := []) ⟨hx, hb, hml, hown, htb⟩ (q_CU_ahead l dC dI x dl sb cC f L b hL (by omega)) (cwV 0 htb (g_V (fun _ h => h) m_187 m_863 m_185 m_186 m_10) rfl rfl rfl (by decide +kernel) ⟨Nat.le_of_ble_eq_true rfl, Nat.le_of_ble_eq_true rfl⟩) ⟨fun a U g mk q => by obtain ⟨q0, qP, qK⟩ := q; exact ⟨q0, qP, va_K.moved (u := U) (U := U.calling g mk a) (Vm.Alike.refl U.vm) qK⟩, va_recv hKc hPc (ci := 1) rfl (q0 := 0) rfl, fun U hU hW => ⟨rfl, by rw [hU]; exact hPc, va_K.moved hW.alike hKc⟩⟩ rfl rfl hl.1 rfl (lv_room (Nat.le_of_ble_eq_true rfl)) d_PR_index_37 ⟨Nat.le_of_ble_eq_true rfl, Nat.le_of_ble_eq_true rfl⟩) (fun r35 hw36 => ?_)
            replace hw36 : r35 = nI (L.getD b 0) := hw36
            clear hPc hKc
            obtain rfl := hw36
            have hPc : va_P (dC, dI) vwCl [] _ := hP.sub (ws' := []) [] rfl
            have hKc := hK.sub (tys' := []) [] rfl
            refine vp_callSi (va_Run.run (va_runSN (As := [.int (nI (L.getD b 0))]) (rest := []) ⟨hx, hb, hml, hown, htb⟩ (q_PS_isDigit l dC dI (L.getD b 0) (by omega)) ⟨va_cnB 1 htb (g_all (fun _ h => h) m_427) rfl rfl rfl (nw_9 hE) (htb _ m_1) (by decide +kernel) ⟨Nat.le_of_ble_eq_true rfl, Nat.le_of_ble_eq_true rfl⟩, (htb _ m_426), trivial⟩ ⟨fun a U g mk q => by obtain ⟨q0, qP, qK⟩ := q; exact ⟨q0, qP, va_K.moved (u := U) (U := U.calling g mk a) (Vm.Alike.refl U.vm) qK⟩, fun U hU hW => ⟨rfl, by rw [hU]; exact hPc, va_K.moved hW.alike hKc⟩⟩ rfl rfl hl.1 rfl (lv_room (Nat.le_of_ble_eq_true rfl)) d_PR_index_40 ⟨Nat.le_of_ble_eq_true rfl, Nat.le_of_ble_eq_true rfl⟩)) (fun r37 hw38 => ?_)
            replace hw38 : r37 = bI (isDig (L.getD b 0)) := hw38
            clear hPc hKc
            refine lv_if_eq (tgt := 97) hx hb d_PR_index_43 rfl (fun h3 => ?_) (fun h3 => ?_)
            · have h3 : isDig (L.getD b 0) = false := bI_eq.mp (show bI (isDig (L.getD b 0)) = 0 from hw38 ▸ h3)
              exact hjoinX b nn vv _ _ ls (hbl) (hvb) (by rcases hinv with h | h; exact Or.inl ⟨h.2.1, h.2.2, h.2.2 ▸ h3⟩; exact Or.inr ⟨h.2.2.1, hvb, h.2.2.2.2.1, h.2.2.2.2.2.1, by rw [h.2.2.2.2.2.2.1, dg_end h3], h.2.2.2.2.2.2.2⟩) (lv_sub hl [0, 1, 2, 3] rfl) (zz_pickP (pre := [(pr, .inr (7, [.ref x])), (x, .inr (1, [.ref dl, .int (nI L.length), .int (nI b), .ref sb])), (dl, .inl (cC, 160, .inl f))]) (fz := fz) (wc := [(pr, .inr (7, [.ref x])), (x, .inr (1, [.ref dl, .int (nI L.length), .int (nI b), .ref sb])), (dl, .inl (cC, 160, .inl f))]) hP [0, 1, 2] rfl) (zz_pickD (pre := [(pr, .inr (7, [.ref x])), (x, .inr (1, [.ref dl, .int (nI L.length), .int (nI b), .ref sb])), (dl, .inl (cC, 160, .inl f))]) (fz := fz) (wc := [(pr, .inr (7, [.ref x])), (x, .inr (1, [.ref dl, .int (nI L.length), .int (nI b), .ref sb])), (dl, .inl (cC, 160, .inl f))]) hD [0, 1, 2] (by decide) rfl) hS
            · have h3 : isDig (L.getD b 0) = true := bI_ne.mp (show ¬ bI (isDig (L.getD b 0)) = 0 from hw38 ▸ h3)
              have hd2 := isDig_iff.mp h3
              have hbl2 := dig_in h3
              refine lv_aload_n hx hb d_PR_index_46 rfl (lv_at hl 3 rfl) ?_
              refine va_get (D := (dC, dI)) (ci := 7) (v := .ref x) (C := R_PR) (T := T_PR) (N := 1) hx hb htb in_PR hown hK hP 0 rfl rfl 0 (by decide) (htb _ m_852) (fun _ h9 => h9) rfl d_PR_index_47 ?_
              have hPc : va_P (dC, dI) vwCl [(x, .inr (1, [.ref dl, .int (nI L.length), .int (nI b), .ref sb])), (dl, .inl (cC, 160, .inl f))] _ := hP.sub (ws' := [(x, .inr (1, [.ref dl, .int (nI L.length), .int (nI b), .ref sb])), (dl, .inl (cC, 160, .inl f))]) [1, 2] rfl
              have hKc := hK.sub (tys' := [(cC, .char)]) [0] rfl
              refine vp_callSi (W.runV (As := []) (rest := []) ⟨hx, hb, hml, hown, htb⟩ (q_CU_ahead l dC dI x dl sb cC f L b hL (by omega)) (cwV 0 htb (g_V (fun _ h => h) m_187 m_863 m_185 m_186 m_10) rfl rfl rfl (by decide +kernel) ⟨Nat.le_of_ble_eq_true rfl, Nat.le_of_ble_eq_true rfl⟩) ⟨fun a U g mk q => by obtain ⟨q0, qP, qK⟩ := q; exact ⟨q0, qP, va_K.moved (u := U) (U := U.calling g mk a) (Vm.Alike.refl U.vm) qK⟩, va_recv hKc hPc (ci := 1) rfl (q0 := 0) rfl, fun U hU hW => ⟨rfl, by rw [hU]; exact hPc, va_K.moved hW.alike hKc⟩⟩ rfl rfl hl.1 rfl (lv_room (Nat.le_of_ble_eq_true rfl)) d_PR_index_50 ⟨Nat.le_of_ble_eq_true rfl, Nat.le_of_ble_eq_true rfl⟩) (fun r39 hw40 => ?_)
              replace hw40 : r39 = nI (L.getD b 0) := hw40
              clear hPc hKc
              obtain rfl := hw40
              refine lv_istore hx hb d_PR_index_53 hl (by decide) rfl (fun ls hl => ?_)
              replace hl : lv_has ls 5 [(4, .int (nI (L.getD b 0))), (3, .int (nI nn)), (2, .int (nI vv)), (1, .int 1), (0, .ref pr)] := hl
              refine lv_aload_n hx hb d_PR_index_55 rfl (lv_at hl 4 rfl) ?_
              refine va_get (D := (dC, dI)) (ci := 7) (v := .ref x) (C := R_PR) (T := T_PR) (N := 1) hx hb htb in_PR hown hK hP 0 rfl rfl 0 (by decide) (htb _ m_852) (fun _ h9 => h9) rfl d_PR_index_56 ?_
              refine lv_iload hx hb d_PR_index_59 (lv_at hl 0 rfl) ?_
              have hPc := hP.sub (ws' := [(x, .inr (1, [.ref dl, .int (nI L.length), .int (nI b), .ref sb])), (dl, .inl (cC, 160, .inl f))]) [1, 2] rfl
              have hDc := hD.sub (ws' := [(x, .inr (1, [.ref dl, .int (nI L.length), .int (nI b), .ref sb])), (dl, .inl (cC, 160, .inl f))]) [1, 2] (by decide) rfl
              have hFc := va_free (wc := [(x, .inr (1, [.ref dl, .int (nI L.length), .int (nI b), .ref sb])), (dl, .inl (cC, 160, .inl f))]) hD hS hA [1, 2] rfl
              have hKc := hK.sub (tys' := [(cC, .char)]) [0] rfl
              refine va_calli (va_runV (As := [.int (nI (L.getD b 0))]) (rest := []) ⟨hx, hb, hml, hown, htb⟩ (k_CU_took l dC dI _ x dl sb cC f L b (L.getD b 0) hL (by omega) (by omega) (by omega)) (cwV 1 htb (g_V (fun _ h => h) m_435 m_860 m_433 m_434 m_10) rfl rfl rfl (by decide +kernel) ⟨Nat.le_of_ble_eq_true rfl, Nat.le_of_ble_eq_true rfl⟩) ⟨fun a U g mk q => by obtain ⟨q0, q1, qP, qK, qD⟩ := q; exact ⟨q0, q1, qP, va_K.moved (u := U) (U := U.calling g mk a) (Vm.Alike.refl U.vm) qK, qD⟩, va_recv hK hP (ci := 1) rfl (q0 := 1) rfl, fun U hU hW => ⟨rfl, by rw [hU], by rw [hU]; exact hPc, va_K.moved hW.alike hKc, hDc.weaken (fun _ _ _ _ => trivial)⟩⟩ rfl rfl hl.1 rfl (lv_room (Nat.le_of_ble_eq_true rfl)) d_PR_index_61 ⟨Nat.le_of_ble_eq_true rfl, Nat.le_of_ble_eq_true rfl⟩) hS (fun q _ h => hFc q h) hFc (fun r42 u41 t H1 locs ht hvm hw43 hB hz1 hk1 hS => ?_)
              obtain ⟨hP1, hK1, hD1⟩ := hB
              rw [ht] at hP1
              have hK1 := va_K.moved hvm.symm hK1
              replace hw43 : (r42 = 1 ∧ L.getD b 0 = (L.getD b 0) ∧ b < L.length ∧ u41 = b + 1) ∨ (r42 = 0 ∧ L.getD b 0 ≠ (L.getD b 0) ∧ u41 = b) := hw43
              obtain ⟨hP, hD⟩ := zz_joinN (pre := [(pr, .inr (7, [.ref x])), (x, .inr (1, [.ref dl, .int (nI L.length), .int (nI b), .ref sb])), (dl, .inl (cC, 160, .inl f))]) (fz := fz) (wc := [(x, .inr (1, [.ref dl, .int (nI L.length), .int (nI b), .ref sb])), (dl, .inl (cC, 160, .inl f))]) (wr := [(pr, .inr (7, [.ref x]))]) (w1 := [(x, .inr (1, [.ref dl, .int (nI L.length), .int (nI u41), .ref sb])), (dl, .inl (cC, 160, .inl f))]) hP hD [1, 2] [0] rfl rfl (by decide) (by decide) hk1 hFc hP1 hD1
              have hK := (hK.sub (tys' := []) [] rfl).app hK1
              generalize H1 = H at hP hS ⊢
              replace hP : va_P (dC, dI) vwCl ([(pr, .inr (7, [.ref x])), (x, .inr (1, [.ref dl, .int (nI L.length), .int (nI u41), .ref sb])), (dl, .inl (cC, 160, .inl f))] ++ fz) H := hP
              replace hD : va_D A ([(pr, .inr (7, [.ref x])), (x, .inr (1, [.ref dl, .int (nI L.length), .int (nI u41), .ref sb])), (dl, .inl (cC, 160, .inl f))] ++ fz) := hD
              replace hK : va_K (dC, dI) vwCl [(cC, .char)] s := hK
              clear hPc hDc hFc hKc hP1 hD1 hK1 hk1 hz1 ht hvm
              rcases hw43 with ⟨rfl, gg45, gl46, hab47⟩ | ⟨rfl, gg45, hab47⟩
              · rw [hab47] at hP hD
                replace hP : va_P (dC, dI) vwCl ([(pr, .inr (7, [.ref x])), (x, .inr (1, [.ref dl, .int (nI L.length), .int (nI (b + 1)), .ref sb])), (dl, .inl (cC, 160, .inl f))] ++ fz) H := hP
                replace hD : va_D A ([(pr, .inr (7, [.ref x])), (x, .inr (1, [.ref dl, .int (nI L.length), .int (nI (b + 1)), .ref sb])), (dl, .inl (cC, 160, .inl f))] ++ fz) := hD
                refine lv_pop hx hb d_PR_index_64 rfl ?_
                refine lv_iload_n hx hb d_PR_index_65 rfl (lv_at hl 2 rfl) ?_
                refine lv_if_ne (tgt := 80) hx hb d_PR_index_66 rfl (fun h5 => ?_) (fun h5 => ?_)
                · have h5 : ¬ vv = 0 := fun h => h5 (by rw [h]; rfl)
                  obtain ⟨i1, i2, i3, i4, i5, i6, i7, i8⟩ := hinv.resolve_left (fun h => h5 h.2.1)
                  refine lv_iload_n hx hb d_PR_index_80 rfl (lv_at hl 2 rfl) ?_
                  refine lv_bipush (v := 10) hx hb d_PR_index_81 (by decide) ?_
                  refine lv_imul hx hb d_PR_index_83 ?_
                  refine lv_iload hx hb d_PR_index_84 (lv_at hl 0 rfl) ?_
                  refine lv_iadd hx hb d_PR_index_86 ?_
                  refine lv_bipush (v := 48) hx hb d_PR_index_87 (by decide) ?_
                  refine lv_isub hx hb d_PR_index_89 ?_
                  refine W.eq (congrArg (fun z => F0 m 90 ls (.int z :: [])) (num_next hd2.1 : ((((nI vv) * 10) + (nI (L.getD b 0))) - 48) = nI (10 * vv + (L.getD b 0 - 48)))) ?_
                  refine lv_istore_n hx hb d_PR_index_90 rfl hl (by decide) rfl (fun ls hl => ?_)
                  replace hl : lv_has ls 5 [(2, .int (nI (10 * vv + (L.getD b 0 - 48)))), (4, .int (nI (L.getD b 0))), (3, .int (nI nn)), (1, .int 1), (0, .ref pr)] := hl
                  refine lv_iinc (k := 2) (v := ((nI nn) + Int32.ofInt 1)) hx hb d_PR_index_91 hl rfl rfl (by decide) rfl (fun ls hl => ?_)
                  replace hl : lv_has ls 5 [(3, .int ((nI nn) + Int32.ofInt 1)), (2, .int (nI (10 * vv + (L.getD b 0 - 48)))), (4, .int (nI (L.getD b 0))), (1, .int 1), (0, .ref pr)] := hl
                  rw [show nI nn + Int32.ofInt 1 = nI (nn + 1) from nI_1 _] at hl
                  replace hl : lv_has ls 5 [(3, .int (nI (nn + 1))), (2, .int (nI (10 * vv + (L.getD b 0 - 48)))), (4, .int (nI (L.getD b 0))), (1, .int 1), (0, .ref pr)] := hl
                  refine lv_goto (tgt := 28) hx hb d_PR_index_94 rfl ?_
                  exact ih (3 - (nn + 1)) (by omega) (b + 1) (nn + 1) (10 * vv + (L.getD b 0 - 48)) H locs ls rfl (by omega) (Or.inr ⟨by omega, by omega, by omega, by rw [Nat.pow_succ]; omega, i5, i6, by rw [i7, show 3 - nn = (3 - (nn + 1)) + 1 by omega, dg_step h3], by omega⟩) (lv_sub hl [0, 1, 3, 4] rfl) (zz_pickP (pre := [(pr, .inr (7, [.ref x])), (x, .inr (1, [.ref dl, .int (nI L.length), .int (nI (b + 1)), .ref sb])), (dl, .inl (cC, 160, .inl f))]) (fz := fz) (wc := [(pr, .inr (7, [.ref x])), (x, .inr (1, [.ref dl, .int (nI L.length), .int (nI (b + 1)), .ref sb])), (dl, .inl (cC, 160, .inl f))]) hP [0, 1, 2] rfl) (zz_pickD (pre := [(pr, .inr (7, [.ref x])), (x, .inr (1, [.ref dl, .int (nI L.length), .int (nI (b + 1)), .ref sb])), (dl, .inl (cC, 160, .inl f))]) (fz := fz) (wc := [(pr, .inr (7, [.ref x])), (x, .inr (1, [.ref dl, .int (nI L.length), .int (nI (b + 1)), .ref sb])), (dl, .inl (cC, 160, .inl f))]) hD [0, 1, 2] (by decide) rfl) hS
                · have h5 : vv = 0 := (nI_eq (by omega) (by decide)).mp h5
                  obtain ⟨i1, -, i3⟩ := hinv.resolve_right (fun h => by omega)
                  have hcb2 : L.getD b 0 = L.getD (a + 1) 0 := by rw [i3]
                  refine lv_iload hx hb d_PR_index_69 (lv_at hl 0 rfl) ?_
                  refine lv_bipush (v := 48) hx hb d_PR_index_71 (by decide) ?_
                  refine lv_icmp_ne (tgt := 80) hx hb d_PR_index_73 rfl (fun h6 => ?_) (fun h6 => ?_)
                  · have h6 : ¬ L.getD b 0 = 48 := fun h => h6 (by rw [h]; rfl)
                    refine lv_iload_n hx hb d_PR_index_80 rfl (lv_at hl 2 rfl) ?_
                    refine lv_bipush (v := 10) hx hb d_PR_index_81 (by decide) ?_
                    refine lv_imul hx hb d_PR_index_83 ?_
                    refine lv_iload hx hb d_PR_index_84 (lv_at hl 0 rfl) ?_
                    refine lv_iadd hx hb d_PR_index_86 ?_
                    refine lv_bipush (v := 48) hx hb d_PR_index_87 (by decide) ?_
                    refine lv_isub hx hb d_PR_index_89 ?_
                    refine W.eq (congrArg (fun z => F0 m 90 ls (.int z :: [])) (num_next hd2.1 : ((((nI vv) * 10) + (nI (L.getD b 0))) - 48) = nI (10 * vv + (L.getD b 0 - 48)))) ?_
                    refine lv_istore_n hx hb d_PR_index_90 rfl hl (by decide) rfl (fun ls hl => ?_)
                    replace hl : lv_has ls 5 [(2, .int (nI (10 * vv + (L.getD b 0 - 48)))), (4, .int (nI (L.getD b 0))), (3, .int (nI nn)), (1, .int 1), (0, .ref pr)] := hl
                    refine lv_iinc (k := 2) (v := ((nI nn) + Int32.ofInt 1)) hx hb d_PR_index_91 hl rfl rfl (by decide) rfl (fun ls hl => ?_)
                    replace hl : lv_has ls 5 [(3, .int ((nI nn) + Int32.ofInt 1)), (2, .int (nI (10 * vv + (L.getD b 0 - 48)))), (4, .int (nI (L.getD b 0))), (1, .int 1), (0, .ref pr)] := hl
                    rw [show nI nn + Int32.ofInt 1 = nI (nn + 1) from nI_1 _] at hl
                    replace hl : lv_has ls 5 [(3, .int (nI (nn + 1))), (2, .int (nI (10 * vv + (L.getD b 0 - 48)))), (4, .int (nI (L.getD b 0))), (1, .int 1), (0, .ref pr)] := hl
                    refine lv_goto (tgt := 28) hx hb d_PR_index_94 rfl ?_
                    exact ih (3 - (nn + 1)) (by omega) (b + 1) (nn + 1) (10 * vv + (L.getD b 0 - 48)) H locs ls rfl (by omega) (Or.inr ⟨by omega, by omega, by omega, by rw [i1, h5]; omega, hcb2 ▸ h3, fun h => h6 (hcb2.trans h), by rw [← i3, dg_step (n := 2) h3, i1, h5], by omega⟩) (lv_sub hl [0, 1, 3, 4] rfl) (zz_pickP (pre := [(pr, .inr (7, [.ref x])), (x, .inr (1, [.ref dl, .int (nI L.length), .int (nI (b + 1)), .ref sb])), (dl, .inl (cC, 160, .inl f))]) (fz := fz) (wc := [(pr, .inr (7, [.ref x])), (x, .inr (1, [.ref dl, .int (nI L.length), .int (nI (b + 1)), .ref sb])), (dl, .inl (cC, 160, .inl f))]) hP [0, 1, 2] rfl) (zz_pickD (pre := [(pr, .inr (7, [.ref x])), (x, .inr (1, [.ref dl, .int (nI L.length), .int (nI (b + 1)), .ref sb])), (dl, .inl (cC, 160, .inl f))]) (fz := fz) (wc := [(pr, .inr (7, [.ref x])), (x, .inr (1, [.ref dl, .int (nI L.length), .int (nI (b + 1)), .ref sb])), (dl, .inl (cC, 160, .inl f))]) hD [0, 1, 2] (by decide) rfl) hS
                  · have h6 : L.getD b 0 = 48 := (nI_eq (by omega) (by decide)).mp h6
                    refine lv_sipush (v := 1001) hx hb d_PR_index_76 (by decide) ?_
                    have hP9 := zz_pickP (pre := [(pr, .inr (7, [.ref x])), (x, .inr (1, [.ref dl, .int (nI L.length), .int (nI (b + 1)), .ref sb])), (dl, .inl (cC, 160, .inl f))]) (fz := fz) (wc := [(pr, .inr (7, [.ref x])), (x, .inr (1, [.ref dl, .int (nI L.length), .int (nI (b + 1)), .ref sb])), (dl, .inl (cC, 160, .inl f))]) hP [0, 1, 2] rfl
                    have hD9 := zz_pickD (pre := [(pr, .inr (7, [.ref x])), (x, .inr (1, [.ref dl, .int (nI L.length), .int (nI (b + 1)), .ref sb])), (dl, .inl (cC, 160, .inl f))]) (fz := fz) (wc := [(pr, .inr (7, [.ref x])), (x, .inr (1, [.ref dl, .int (nI L.length), .int (nI (b + 1)), .ref sb])), (dl, .inl (cC, 160, .inl f))]) hD [0, 1, 2] (by decide) rfl
                    have hK9 := hK.sub (tys' := [(cC, .char)]) [0] rfl
                    rw [hQ]
                    refine W.widen (k := 0) (n := 0) (Nat.le_of_ble_eq_true rfl) (Nat.le_of_ble_eq_true rfl) ?_
                    exact W.iret (v := 1001) hx hb hr (fun t ht hW => ⟨⟨1001, b + 1, rfl, ⟨by omega, by omega, Or.inl ⟨ixp_m1 hm45 (hcb2.symm.trans h6), rfl⟩⟩, ⟨by rw [ht]; exact hP9, va_K.moved hW.alike hK9, hD9⟩⟩, hS.F ht⟩) hS.2.2 d_PR_index_79
              · rw [hab47] at hP hD
                replace hP : va_P (dC, dI) vwCl ([(pr, .inr (7, [.ref x])), (x, .inr (1, [.ref dl, .int (nI L.length), .int (nI b), .ref sb])), (dl, .inl (cC, 160, .inl f))] ++ fz) H := hP
                replace hD : va_D A ([(pr, .inr (7, [.ref x])), (x, .inr (1, [.ref dl, .int (nI L.length), .int (nI b), .ref sb])), (dl, .inl (cC, 160, .inl f))] ++ fz) := hD
                exact absurd rfl gg45
      exact hloop _ (a + 1) 0 0 _ _ ls rfl (by omega) (Or.inl ⟨rfl, rfl, rfl⟩) (lv_sub hl [0, 1, 2, 3] rfl) (zz_pickP (pre := [(pr, .inr (7, [.ref x])), (x, .inr (1, [.ref dl, .int (nI L.length), .int (nI (a + 1)), .ref sb])), (dl, .inl (cC, 160, .inl f))]) (fz := fz) (wc := [(pr, .inr (7, [.ref x])), (x, .inr (1, [.ref dl, .int (nI L.length), .int (nI (a + 1)), .ref sb])), (dl, .inl (cC, 160, .inl f))]) hP [0, 1, 2] rfl) (zz_pickD (pre := [(pr, .inr (7, [.ref x])), (x, .inr (1, [.ref dl, .int (nI L.length), .int (nI (a + 1)), .ref sb])), (dl, .inl (cC, 160, .inl f))]) (fz := fz) (wc := [(pr, .inr (7, [.ref x])), (x, .inr (1, [.ref dl, .int (nI L.length), .int (nI (a + 1)), .ref sb])), (dl, .inl (cC, 160, .inl f))]) hD [0, 1, 2] (by decide) rfl) hS
    · rw [hab34] at hP hD
      replace hP : va_P (dC, dI) vwCl ([(pr, .inr (7, [.ref x])), (x, .inr (1, [.ref dl, .int (nI L.length), .int (nI a), .ref sb])), (dl, .inl (cC, 160, .inl f))] ++ fz) H := hP
      replace hD : va_D A ([(pr, .inr (7, [.ref x])), (x, .inr (1, [.ref dl, .int (nI L.length), .int (nI a), .ref sb])), (dl, .inl (cC, 160, .inl f))] ++ fz) := hD
      have hm45 : ¬ hd0 (L.drop a) = 45 := by rw [hd_drop]; exact gg32
      refine lv_istore_n hx hb d_PR_index_23 rfl hl (by decide) rfl (fun ls hl => ?_)
      replace hl : lv_has ls 5 [(1, .int 0), (0, .ref pr)] := hl
      refine lv_iconst (v := 0) hx hb d_PR_index_24 (by decide) ?_
      refine lv_istore_n hx hb d_PR_index_25 rfl hl (by decide) rfl (fun ls hl => ?_)
      replace hl : lv_has ls 5 [(2, .int 0), (1, .int 0), (0, .ref pr)] := hl
      refine lv_iconst (v := 0) hx hb d_PR_index_26 (by decide) ?_
      refine lv_istore_n hx hb d_PR_index_27 rfl hl (by decide) rfl (fun ls hl => ?_)
      replace hl : lv_has ls 5 [(3, .int 0), (2, .int 0), (1, .int 0), (0, .ref pr)] := hl
      replace hl : lv_has ls 5 [(3, .int (nI 0)), (2, .int (nI 0)), (1, .int 0), (0, .ref pr)] := hl
      have hjoinX : ∀ (b : Nat) (nn : Nat) (vv : Nat) (H : Heap) (locs : List Loc) (ls : Array Slot), (b ≤ L.length) → (vv < 1000) → ((vv = 0 ∧ b = a ∧ isDig (L.getD a 0) = false) ∨ (0 < vv ∧ vv < 1000 ∧ isDig (L.getD a 0) = true ∧ ¬ L.getD a 0 = 48 ∧ dg 3 0 (L.drop a) = (vv, L.drop b) ∧ a ≤ b)) → lv_has ls 5 [(3, .int (nI nn)), (2, .int (nI vv)), (1, .int 0), (0, .ref pr)] → va_P (dC, dI) vwCl ([(pr, .inr (7, [.ref x])), (x, .inr (1, [.ref dl, .int (nI L.length), .int (nI b), .ref sb])), (dl, .inl (cC, 160, .inl f))] ++ fz) H → va_D A ([(pr, .inr (7, [.ref x])), (x, .inr (1, [.ref dl, .int (nI L.length), .int (nI b), .ref sb])), (dl, .inl (cC, 160, .inl f))] ++ fz) → va_S A s.heap H locs → W p l e (headSpec ws_PR_index ({ frames := 1, cells := 0, slots := 0, locals := 21 })).room s m args below meth c H locs 0 0 Q (F0 m 97 ls []) := by
        intro b nn vv H locs ls hbl hvv hres hl hP hD hS
        refine lv_iload_n hx hb d_PR_index_97 rfl (lv_at hl 1 rfl) ?_
        refine lv_if_ne (tgt := 115) hx hb d_PR_index_98 rfl (fun h1 => ?_) (fun h1 => ?_)
        · have h1 : ¬ vv = 0 := fun h => h1 (by rw [h]; rfl)
          obtain ⟨hv1, hv2, hv3, hv4, hv5, hv6⟩ := hres.resolve_left (fun h => h1 h.1)
          refine lv_iload_n hx hb d_PR_index_115 rfl (lv_at hl 2 rfl) ?_
          refine lv_if_eq (tgt := 124) hx hb d_PR_index_116 rfl (fun _ => ?_) (fun h9 => absurd (rfl) h9)
          refine lv_iload_n hx hb d_PR_index_124 rfl (lv_at hl 1 rfl) ?_
          refine W.eq (congrArg (fun z => F0 m 125 ls (.int z :: [])) ((iI_nat vv).symm : (nI vv) = iI (vv : Int))) ?_
          have hP9 := zz_pickP (pre := [(pr, .inr (7, [.ref x])), (x, .inr (1, [.ref dl, .int (nI L.length), .int (nI b), .ref sb])), (dl, .inl (cC, 160, .inl f))]) (fz := fz) (wc := [(pr, .inr (7, [.ref x])), (x, .inr (1, [.ref dl, .int (nI L.length), .int (nI b), .ref sb])), (dl, .inl (cC, 160, .inl f))]) hP [0, 1, 2] rfl
          have hD9 := zz_pickD (pre := [(pr, .inr (7, [.ref x])), (x, .inr (1, [.ref dl, .int (nI L.length), .int (nI b), .ref sb])), (dl, .inl (cC, 160, .inl f))]) (fz := fz) (wc := [(pr, .inr (7, [.ref x])), (x, .inr (1, [.ref dl, .int (nI L.length), .int (nI b), .ref sb])), (dl, .inl (cC, 160, .inl f))]) hD [0, 1, 2] (by decide) rfl
          have hK9 := hK.sub (tys' := [(cC, .char)]) [0] rfl
          rw [hQ]
          refine W.widen (k := 0) (n := 0) (Nat.le_of_ble_eq_true rfl) (Nat.le_of_ble_eq_true rfl) ?_
          exact W.iret (v := (iI (vv : Int))) hx hb hr (fun t ht hW => ⟨⟨(iI (vv : Int)), b, rfl, ⟨by omega, by omega, Or.inr ⟨some (vv : Int), ixp_p2 hm45 hv3 hv4 hv5, rfl, fun v8 h => by cases h; exact ⟨by omega, by omega⟩⟩⟩, ⟨by rw [ht]; exact hP9, va_K.moved hW.alike hK9, hD9⟩⟩, hS.F ht⟩) hS.2.2 d_PR_index_125
        · have h1 : vv = 0 := (nI_eq (by omega) (by decide)).mp h1
          obtain ⟨-, hb0, hd0⟩ := hres.resolve_right (fun h => by omega)
          refine lv_iload_n hx hb d_PR_index_101 rfl (lv_at hl 2 rfl) ?_
          refine lv_if_eq (tgt := 111) hx hb d_PR_index_102 rfl (fun _ => ?_) (fun h9 => absurd (rfl) h9)
          refine lv_sipush (v := 1000) hx hb d_PR_index_111 (by decide) ?_
          have hP9 := zz_pickP (pre := [(pr, .inr (7, [.ref x])), (x, .inr (1, [.ref dl, .int (nI L.length), .int (nI b), .ref sb])), (dl, .inl (cC, 160, .inl f))]) (fz := fz) (wc := [(pr, .inr (7, [.ref x])), (x, .inr (1, [.ref dl, .int (nI L.length), .int (nI b), .ref sb])), (dl, .inl (cC, 160, .inl f))]) hP [0, 1, 2] rfl
          have hD9 := zz_pickD (pre := [(pr, .inr (7, [.ref x])), (x, .inr (1, [.ref dl, .int (nI L.length), .int (nI b), .ref sb])), (dl, .inl (cC, 160, .inl f))]) (fz := fz) (wc := [(pr, .inr (7, [.ref x])), (x, .inr (1, [.ref dl, .int (nI L.length), .int (nI b), .ref sb])), (dl, .inl (cC, 160, .inl f))]) hD [0, 1, 2] (by decide) rfl
          have hK9 := hK.sub (tys' := [(cC, .char)]) [0] rfl
          rw [hQ]
          refine W.widen (k := 0) (n := 0) (Nat.le_of_ble_eq_true rfl) (Nat.le_of_ble_eq_true rfl) ?_
          exact W.iret (v := 1000) hx hb hr (fun t ht hW => ⟨⟨1000, b, rfl, ⟨by omega, by omega, Or.inr ⟨none, by rw [hb0]; exact ixp_p0 hm45 hd0, rfl, fun v8 h => by cases h⟩⟩, ⟨by rw [ht]; exact hP9, va_K.moved hW.alike hK9, hD9⟩⟩, hS.F ht⟩) hS.2.2 d_PR_index_114
      have hloop : ∀ (k9 : Nat) (b : Nat) (nn : Nat) (vv : Nat) (H : Heap) (locs : List Loc) (ls : Array Slot), 3 - nn = k9 → (b ≤ L.length) → ((nn = 0 ∧ vv = 0 ∧ b = a) ∨ (1 ≤ nn ∧ nn ≤ 3 ∧ 0 < vv ∧ vv < 10 ^ nn ∧ isDig (L.getD a 0) = true ∧ ¬ L.getD a 0 = 48 ∧ dg 3 0 (L.drop a) = dg (3 - nn) vv (L.drop b) ∧ a ≤ b)) → lv_has ls 5 [(3, .int (nI nn)), (2, .int (nI vv)), (1, .int 0), (0, .ref pr)] → va_P (dC, dI) vwCl ([(pr, .inr (7, [.ref x])), (x, .inr (1, [.ref dl, .int (nI L.length), .int (nI b), .ref sb])), (dl, .inl (cC, 160, .inl f))] ++ fz) H → va_D A ([(pr, .inr (7, [.ref x])), (x, .inr (1, [.ref dl, .int (nI L.length), .int (nI b), .ref sb])), (dl, .inl (cC, 160, .inl f))] ++ fz) → va_S A s.heap H locs → W p l e (headSpec ws_PR_index ({ frames := 1, cells := 0, slots := 0, locals := 21 })).room s m args below meth c H locs 0 0 Q (F0 m 28 ls []) := by
        intro k9
        induction k9 using Nat.strongRecOn with
        | ind k9 ih =>
          intro b nn vv H locs ls hk9 hbl hinv hl hP hD hS
          have hcb : L.getD b 0 < 127 := hL.lt b
          have hnb : nn ≤ 3 := by omega
          have hvb : vv < 1000 := by rcases hinv with h | h; omega; (have := Nat.pow_le_pow_right (n := 10) (by decide) h.2.1; omega)
          refine lv_iload_n hx hb d_PR_index_28 rfl (lv_at hl 0 rfl) ?_
          refine lv_iconst (v := 3) hx hb d_PR_index_29 (by decide) ?_
          refine lv_icmp_ge (tgt := 97) hx hb d_PR_index_30 rfl (fun h4 => ?_) (fun h4 => ?_)
          · have h4 : nn = 3 := by have := (nI_leI (a := 3) (by decide) (by omega)).mp h4; omega
            exact hjoinX b nn vv _ _ ls (hbl) (hvb) (by rcases hinv with h | h; omega; exact Or.inr ⟨h.2.2.1, hvb, h.2.2.2.2.1, h.2.2.2.2.2.1, by rw [h.2.2.2.2.2.2.1, h4]; rfl, h.2.2.2.2.2.2.2⟩) (lv_sub hl [0, 1, 2, 3] rfl) (zz_pickP (pre := [(pr, .inr (7, [.ref x])), (x, .inr (1, [.ref dl, .int (nI L.length), .int (nI b), .ref sb])), (dl, .inl (cC, 160, .inl f))]) (fz := fz) (wc := [(pr, .inr (7, [.ref x])), (x, .inr (1, [.ref dl, .int (nI L.length), .int (nI b), .ref sb])), (dl, .inl (cC, 160, .inl f))]) hP [0, 1, 2] rfl) (zz_pickD (pre := [(pr, .inr (7, [.ref x])), (x, .inr (1, [.ref dl, .int (nI L.length), .int (nI b), .ref sb])), (dl, .inl (cC, 160, .inl f))]) (fz := fz) (wc := [(pr, .inr (7, [.ref x])), (x, .inr (1, [.ref dl, .int (nI L.length), .int (nI b), .ref sb])), (dl, .inl (cC, 160, .inl f))]) hD [0, 1, 2] (by decide) rfl) hS
          · have h4 : nn < 3 := Nat.not_le.mp (fun h => h4 ((nI_leI (a := 3) (by decide) (by omega)).mpr h))
            refine lv_aload_n hx hb d_PR_index_33 rfl (lv_at hl 3 rfl) ?_
            refine va_get (D := (dC, dI)) (ci := 7) (v := .ref x) (C := R_PR) (T := T_PR) (N := 1) hx hb htb in_PR hown hK hP 0 rfl rfl 0 (by decide) (htb _ m_852) (fun _ h9 => h9) rfl d_PR_index_34 ?_
            have hPc : va_P (dC, dI) vwCl [(x, .inr (1, [.ref dl, .int (nI L.length), .int (nI b), .ref sb])), (dl, .inl (cC, 160, .inl f))] _ := hP.sub (ws' := [(x, .inr (1, [.ref dl, .int (nI L.length), .int (nI b), .ref sb])), (dl, .inl (cC, 160, .inl f))]) [1, 2] rfl
            have hKc := hK.sub (tys' := [(cC, .char)]) [0] rfl
            refine vp_callSi (W.runV (As := []) (rest := []) ⟨hx, hb, hml, hown, htb⟩ (q_CU_ahead l dC dI x dl sb cC f L b hL (by omega)) (cwV 0 htb (g_V (fun _ h => h) m_187 m_863 m_185 m_186 m_10) rfl rfl rfl (by decide +kernel) ⟨Nat.le_of_ble_eq_true rfl, Nat.le_of_ble_eq_true rfl⟩) ⟨fun a U g mk q => by obtain ⟨q0, qP, qK⟩ := q; exact ⟨q0, qP, va_K.moved (u := U) (U := U.calling g mk a) (Vm.Alike.refl U.vm) qK⟩, va_recv hKc hPc (ci := 1) rfl (q0 := 0) rfl, fun U hU hW => ⟨rfl, by rw [hU]; exact hPc, va_K.moved hW.alike hKc⟩⟩ rfl rfl hl.1 rfl (lv_room (Nat.le_of_ble_eq_true rfl)) d_PR_index_37 ⟨Nat.le_of_ble_eq_true rfl, Nat.le_of_ble_eq_true rfl⟩) (fun r35 hw36 => ?_)
            replace hw36 : r35 = nI (L.getD b 0) := hw36
            clear hPc hKc
            obtain rfl := hw36
            have hPc : va_P (dC, dI) vwCl [] _ := hP.sub (ws' := []) [] rfl
            have hKc := hK.sub (tys' := []) [] rfl
            refine vp_callSi (va_Run.run (va_runSN (As := [.int (nI (L.getD b 0))]) (rest := []) ⟨hx, hb, hml, hown, htb⟩ (q_PS_isDigit l dC dI (L.getD b 0) (by omega)) ⟨va_cnB 1 htb (g_all (fun _ h => h) m_427) rfl rfl rfl (nw_9 hE) (htb _ m_1) (by decide +kernel) ⟨Nat.le_of_ble_eq_true rfl, Nat.le_of_ble_eq_true rfl⟩, (htb _ m_426), trivial⟩ ⟨fun a U g mk q => by obtain ⟨q0, qP, qK⟩ := q; exact ⟨q0, qP, va_K.moved (u := U) (U := U.calling g mk a) (Vm.Alike.refl U.vm) qK⟩, fun U hU hW => ⟨rfl, by rw [hU]; exact hPc, va_K.moved hW.alike hKc⟩⟩ rfl rfl hl.1 rfl (lv_room (Nat.le_of_ble_eq_true rfl)) d_PR_index_40 ⟨Nat.le_of_ble_eq_true rfl, Nat.le_of_ble_eq_true rfl⟩)) (fun r37 hw38 => ?_)
            replace hw38 : r37 = bI (isDig (L.getD b 0)) := hw38
            clear hPc hKc
            refine lv_if_eq (tgt := 97) hx hb d_PR_index_43 rfl (fun h3 => ?_) (fun h3 => ?_)
            · have h3 : isDig (L.getD b 0) = false := bI_eq.mp (show bI (isDig (L.getD b 0)) = 0 from hw38 ▸ h3)
              exact hjoinX b nn vv _ _ ls (hbl) (hvb) (by rcases hinv with h | h; exact Or.inl ⟨h.2.1, h.2.2, h.2.2 ▸ h3⟩; exact Or.inr ⟨h.2.2.1, hvb, h.2.2.2.2.1, h.2.2.2.2.2.1, by rw [h.2.2.2.2.2.2.1, dg_end h3], h.2.2.2.2.2.2.2⟩) (lv_sub hl [0, 1, 2, 3] rfl) (zz_pickP (pre := [(pr, .inr (7, [.ref x])), (x, .inr (1, [.ref dl, .int (nI L.length), .int (nI b), .ref sb])), (dl, .inl (cC, 160, .inl f))]) (fz := fz) (wc := [(pr, .inr (7, [.ref x])), (x, .inr (1, [.ref dl, .int (nI L.length), .int (nI b), .ref sb])), (dl, .inl (cC, 160, .inl f))]) hP [0, 1, 2] rfl) (zz_pickD (pre := [(pr, .inr (7, [.ref x])), (x, .inr (1, [.ref dl, .int (nI L.length), .int (nI b), .ref sb])), (dl, .inl (cC, 160, .inl f))]) (fz := fz) (wc := [(pr, .inr (7, [.ref x])), (x, .inr (1, [.ref dl, .int (nI L.length), .int (nI b), .ref sb])), (dl, .inl (cC, 160, .inl f))]) hD [0, 1, 2] (by decide) rfl) hS
            · have h3 : isDig (L.getD b 0) = true := bI_ne.mp (show ¬ bI (isDig (L.getD b 0)) = 0 from hw38 ▸ h3)
              have hd2 := isDig_iff.mp h3
              have hbl2 := dig_in h3
              refine lv_aload_n hx hb d_PR_index_46 rfl (lv_at hl 3 rfl) ?_
              refine va_get (D := (dC, dI)) (ci := 7) (v := .ref x) (C := R_PR) (T := T_PR) (N := 1) hx hb htb in_PR hown hK hP 0 rfl rfl 0 (by decide) (htb _ m_852) (fun _ h9 => h9) rfl d_PR_index_47 ?_
              have hPc : va_P (dC, dI) vwCl [(x, .inr (1, [.ref dl, .int (nI L.length), .int (nI b), .ref sb])), (dl, .inl (cC, 160, .inl f))] _ := hP.sub (ws' := [(x, .inr (1, [.ref dl, .int (nI L.length), .int (nI b), .ref sb])), (dl, .inl (cC, 160, .inl f))]) [1, 2] rfl
              have hKc := hK.sub (tys' := [(cC, .char)]) [0] rfl
              refine vp_callSi (W.runV (As := []) (rest := []) ⟨hx, hb, hml, hown, htb⟩ (q_CU_ahead l dC dI x dl sb cC f L b hL (by omega)) (cwV 0 htb (g_V (fun _ h => h) m_187 m_863 m_185 m_186 m_10) rfl rfl rfl (by decide +kernel) ⟨Nat.le_of_ble_eq_true rfl, Nat.le_of_ble_eq_true rfl⟩) ⟨fun a U g mk q => by obtain ⟨q0, qP, qK⟩ := q; exact ⟨q0, qP, va_K.moved (u := U) (U := U.calling g mk a) (Vm.Alike.refl U.vm) qK⟩, va_recv hKc hPc (ci := 1) rfl (q0 := 0) rfl, fun U hU hW => ⟨rfl, by rw [hU]; exact hPc, va_K.moved hW.alike hKc⟩⟩ rfl rfl hl.1 rfl (lv_room (Nat.le_of_ble_eq_true rfl)) d_PR_index_50 ⟨Nat.le_of_ble_eq_true rfl, Nat.le_of_ble_eq_true rfl⟩) (fun r39 hw40 => ?_)
              replace hw40 : r39 = nI (L.getD b 0) := hw40
              clear hPc hKc
              obtain rfl := hw40
              refine lv_istore hx hb d_PR_index_53 hl (by decide) rfl (fun ls hl => ?_)
              replace hl : lv_has ls 5 [(4, .int (nI (L.getD b 0))), (3, .int (nI nn)), (2, .int (nI vv)), (1, .int 0), (0, .ref pr)] := hl
              refine lv_aload_n hx hb d_PR_index_55 rfl (lv_at hl 4 rfl) ?_
              refine va_get (D := (dC, dI)) (ci := 7) (v := .ref x) (C := R_PR) (T := T_PR) (N := 1) hx hb htb in_PR hown hK hP 0 rfl rfl 0 (by decide) (htb _ m_852) (fun _ h9 => h9) rfl d_PR_index_56 ?_
              refine lv_iload hx hb d_PR_index_59 (lv_at hl 0 rfl) ?_
              have hPc := hP.sub (ws' := [(x, .inr (1, [.ref dl, .int (nI L.length), .int (nI b), .ref sb])), (dl, .inl (cC, 160, .inl f))]) [1, 2] rfl
              have hDc := hD.sub (ws' := [(x, .inr (1, [.ref dl, .int (nI L.length), .int (nI b), .ref sb])), (dl, .inl (cC, 160, .inl f))]) [1, 2] (by decide) rfl
              have hFc := va_free (wc := [(x, .inr (1, [.ref dl, .int (nI L.length), .int (nI b), .ref sb])), (dl, .inl (cC, 160, .inl f))]) hD hS hA [1, 2] rfl
              have hKc := hK.sub (tys' := [(cC, .char)]) [0] rfl
              refine va_calli (va_runV (As := [.int (nI (L.getD b 0))]) (rest := []) ⟨hx, hb, hml, hown, htb⟩ (k_CU_took l dC dI _ x dl sb cC f L b (L.getD b 0) hL (by omega) (by omega) (by omega)) (cwV 1 htb (g_V (fun _ h => h) m_435 m_860 m_433 m_434 m_10) rfl rfl rfl (by decide +kernel) ⟨Nat.le_of_ble_eq_true rfl, Nat.le_of_ble_eq_true rfl⟩) ⟨fun a U g mk q => by obtain ⟨q0, q1, qP, qK, qD⟩ := q; exact ⟨q0, q1, qP, va_K.moved (u := U) (U := U.calling g mk a) (Vm.Alike.refl U.vm) qK, qD⟩, va_recv hK hP (ci := 1) rfl (q0 := 1) rfl, fun U hU hW => ⟨rfl, by rw [hU], by rw [hU]; exact hPc, va_K.moved hW.alike hKc, hDc.weaken (fun _ _ _ _ => trivial)⟩⟩ rfl rfl hl.1 rfl (lv_room (Nat.le_of_ble_eq_true rfl)) d_PR_index_61 ⟨Nat.le_of_ble_eq_true rfl, Nat.le_of_ble_eq_true rfl⟩) hS (fun q _ h => hFc q h) hFc (fun r42 u41 t H1 locs ht hvm hw43 hB hz1 hk1 hS => ?_)
              obtain ⟨hP1, hK1, hD1⟩ := hB
              rw [ht] at hP1
              have hK1 := va_K.moved hvm.symm hK1
              replace hw43 : (r42 = 1 ∧ L.getD b 0 = (L.getD b 0) ∧ b < L.length ∧ u41 = b + 1) ∨ (r42 = 0 ∧ L.getD b 0 ≠ (L.getD b 0) ∧ u41 = b) := hw43
              obtain ⟨hP, hD⟩ := zz_joinN (pre := [(pr, .inr (7, [.ref x])), (x, .inr (1, [.ref dl, .int (nI L.length), .int (nI b), .ref sb])), (dl, .inl (cC, 160, .inl f))]) (fz := fz) (wc := [(x, .inr (1, [.ref dl, .int (nI L.length), .int (nI b), .ref sb])), (dl, .inl (cC, 160, .inl f))]) (wr := [(pr, .inr (7, [.ref x]))]) (w1 := [(x, .inr (1, [.ref dl, .int (nI L.length), .int (nI u41), .ref sb])), (dl, .inl (cC, 160, .inl f))]) hP hD [1, 2] [0] rfl rfl (by decide) (by decide) hk1 hFc hP1 hD1
              have hK := (hK.sub (tys' := []) [] rfl).app hK1
              generalize H1 = H at hP hS ⊢
              replace hP : va_P (dC, dI) vwCl ([(pr, .inr (7, [.ref x])), (x, .inr (1, [.ref dl, .int (nI L.length), .int (nI u41), .ref sb])), (dl, .inl (cC, 160, .inl f))] ++ fz) H := hP
              replace hD : va_D A ([(pr, .inr (7, [.ref x])), (x, .inr (1, [.ref dl, .int (nI L.length), .int (nI u41), .ref sb])), (dl, .inl (cC, 160, .inl f))] ++ fz) := hD
              replace hK : va_K (dC, dI) vwCl [(cC, .char)] s := hK
              clear hPc hDc hFc hKc hP1 hD1 hK1 hk1 hz1 ht hvm
              rcases hw43 with ⟨rfl, gg45, gl46, hab47⟩ | ⟨rfl, gg45, hab47⟩
              · rw [hab47] at hP hD
                replace hP : va_P (dC, dI) vwCl ([(pr, .inr (7, [.ref x])), (x, .inr (1, [.ref dl, .int (nI L.length), .int (nI (b + 1)), .ref sb])), (dl, .inl (cC, 160, .inl f))] ++ fz) H := hP
                replace hD : va_D A ([(pr, .inr (7, [.ref x])), (x, .inr (1, [.ref dl, .int (nI L.length), .int (nI (b + 1)), .ref sb])), (dl, .inl (cC, 160, .inl f))] ++ fz) := hD
                refine lv_pop hx hb d_PR_index_64 rfl ?_
                refine lv_iload_n hx hb d_PR_index_65 rfl (lv_at hl 2 rfl) ?_
                refine lv_if_ne (tgt := 80) hx hb d_PR_index_66 rfl (fun h5 => ?_) (fun h5 => ?_)
                · have h5 : ¬ vv = 0 := fun h => h5 (by rw [h]; rfl)
                  obtain ⟨i1, i2, i3, i4, i5, i6, i7, i8⟩ := hinv.resolve_left (fun h => h5 h.2.1)
                  refine lv_iload_n hx hb d_PR_index_80 rfl (lv_at hl 2 rfl) ?_
                  refine lv_bipush (v := 10) hx hb d_PR_index_81 (by decide) ?_
                  refine lv_imul hx hb d_PR_index_83 ?_
                  refine lv_iload hx hb d_PR_index_84 (lv_at hl 0 rfl) ?_
                  refine lv_iadd hx hb d_PR_index_86 ?_
                  refine lv_bipush (v := 48) hx hb d_PR_index_87 (by decide) ?_
                  refine lv_isub hx hb d_PR_index_89 ?_
                  refine W.eq (congrArg (fun z => F0 m 90 ls (.int z :: [])) (num_next hd2.1 : ((((nI vv) * 10) + (nI (L.getD b 0))) - 48) = nI (10 * vv + (L.getD b 0 - 48)))) ?_
                  refine lv_istore_n hx hb d_PR_index_90 rfl hl (by decide) rfl (fun ls hl => ?_)
                  replace hl : lv_has ls 5 [(2, .int (nI (10 * vv + (L.getD b 0 - 48)))), (4, .int (nI (L.getD b 0))), (3, .int (nI nn)), (1, .int 0), (0, .ref pr)] := hl
                  refine lv_iinc (k := 2) (v := ((nI nn) + Int32.ofInt 1)) hx hb d_PR_index_91 hl rfl rfl (by decide) rfl (fun ls hl => ?_)
                  replace hl : lv_has ls 5 [(3, .int ((nI nn) + Int32.ofInt 1)), (2, .int (nI (10 * vv + (L.getD b 0 - 48)))), (4, .int (nI (L.getD b 0))), (1, .int 0), (0, .ref pr)] := hl
                  rw [show nI nn + Int32.ofInt 1 = nI (nn + 1) from nI_1 _] at hl
                  replace hl : lv_has ls 5 [(3, .int (nI (nn + 1))), (2, .int (nI (10 * vv + (L.getD b 0 - 48)))), (4, .int (nI (L.getD b 0))), (1, .int 0), (0, .ref pr)] := hl
                  refine lv_goto (tgt := 28) hx hb d_PR_index_94 rfl ?_
                  exact ih (3 - (nn + 1)) (by omega) (b + 1) (nn + 1) (10 * vv + (L.getD b 0 - 48)) H locs ls rfl (by omega) (Or.inr ⟨by omega, by omega, by omega, by rw [Nat.pow_succ]; omega, i5, i6, by rw [i7, show 3 - nn = (3 - (nn + 1)) + 1 by omega, dg_step h3], by omega⟩) (lv_sub hl [0, 1, 3, 4] rfl) (zz_pickP (pre := [(pr, .inr (7, [.ref x])), (x, .inr (1, [.ref dl, .int (nI L.length), .int (nI (b + 1)), .ref sb])), (dl, .inl (cC, 160, .inl f))]) (fz := fz) (wc := [(pr, .inr (7, [.ref x])), (x, .inr (1, [.ref dl, .int (nI L.length), .int (nI (b + 1)), .ref sb])), (dl, .inl (cC, 160, .inl f))]) hP [0, 1, 2] rfl) (zz_pickD (pre := [(pr, .inr (7, [.ref x])), (x, .inr (1, [.ref dl, .int (nI L.length), .int (nI (b + 1)), .ref sb])), (dl, .inl (cC, 160, .inl f))]) (fz := fz) (wc := [(pr, .inr (7, [.ref x])), (x, .inr (1, [.ref dl, .int (nI L.length), .int (nI (b + 1)), .ref sb])), (dl, .inl (cC, 160, .inl f))]) hD [0, 1, 2] (by decide) rfl) hS
                · have h5 : vv = 0 := (nI_eq (by omega) (by decide)).mp h5
                  obtain ⟨i1, -, i3⟩ := hinv.resolve_right (fun h => by omega)
                  have hcb2 : L.getD b 0 = L.getD a 0 := by rw [i3]
                  refine lv_iload hx hb d_PR_index_69 (lv_at hl 0 rfl) ?_
                  refine lv_bipush (v := 48) hx hb d_PR_index_71 (by decide) ?_
                  refine lv_icmp_ne (tgt := 80) hx hb d_PR_index_73 rfl (fun h6 => ?_) (fun h6 => ?_)
                  · have h6 : ¬ L.getD b 0 = 48 := fun h => h6 (by rw [h]; rfl)
                    refine lv_iload_n hx hb d_PR_index_80 rfl (lv_at hl 2 rfl) ?_
                    refine lv_bipush (v := 10) hx hb d_PR_index_81 (by decide) ?_
                    refine lv_imul hx hb d_PR_index_83 ?_
                    refine lv_iload hx hb d_PR_index_84 (lv_at hl 0 rfl) ?_
                    refine lv_iadd hx hb d_PR_index_86 ?_
                    refine lv_bipush (v := 48) hx hb d_PR_index_87 (by decide) ?_
                    refine lv_isub hx hb d_PR_index_89 ?_
                    refine W.eq (congrArg (fun z => F0 m 90 ls (.int z :: [])) (num_next hd2.1 : ((((nI vv) * 10) + (nI (L.getD b 0))) - 48) = nI (10 * vv + (L.getD b 0 - 48)))) ?_
                    refine lv_istore_n hx hb d_PR_index_90 rfl hl (by decide) rfl (fun ls hl => ?_)
                    replace hl : lv_has ls 5 [(2, .int (nI (10 * vv + (L.getD b 0 - 48)))), (4, .int (nI (L.getD b 0))), (3, .int (nI nn)), (1, .int 0), (0, .ref pr)] := hl
                    refine lv_iinc (k := 2) (v := ((nI nn) + Int32.ofInt 1)) hx hb d_PR_index_91 hl rfl rfl (by decide) rfl (fun ls hl => ?_)
                    replace hl : lv_has ls 5 [(3, .int ((nI nn) + Int32.ofInt 1)), (2, .int (nI (10 * vv + (L.getD b 0 - 48)))), (4, .int (nI (L.getD b 0))), (1, .int 0), (0, .ref pr)] := hl
                    rw [show nI nn + Int32.ofInt 1 = nI (nn + 1) from nI_1 _] at hl
                    replace hl : lv_has ls 5 [(3, .int (nI (nn + 1))), (2, .int (nI (10 * vv + (L.getD b 0 - 48)))), (4, .int (nI (L.getD b 0))), (1, .int 0), (0, .ref pr)] := hl
                    refine lv_goto (tgt := 28) hx hb d_PR_index_94 rfl ?_
                    exact ih (3 - (nn + 1)) (by omega) (b + 1) (nn + 1) (10 * vv + (L.getD b 0 - 48)) H locs ls rfl (by omega) (Or.inr ⟨by omega, by omega, by omega, by rw [i1, h5]; omega, hcb2 ▸ h3, fun h => h6 (hcb2.trans h), by rw [← i3, dg_step (n := 2) h3, i1, h5], by omega⟩) (lv_sub hl [0, 1, 3, 4] rfl) (zz_pickP (pre := [(pr, .inr (7, [.ref x])), (x, .inr (1, [.ref dl, .int (nI L.length), .int (nI (b + 1)), .ref sb])), (dl, .inl (cC, 160, .inl f))]) (fz := fz) (wc := [(pr, .inr (7, [.ref x])), (x, .inr (1, [.ref dl, .int (nI L.length), .int (nI (b + 1)), .ref sb])), (dl, .inl (cC, 160, .inl f))]) hP [0, 1, 2] rfl) (zz_pickD (pre := [(pr, .inr (7, [.ref x])), (x, .inr (1, [.ref dl, .int (nI L.length), .int (nI (b + 1)), .ref sb])), (dl, .inl (cC, 160, .inl f))]) (fz := fz) (wc := [(pr, .inr (7, [.ref x])), (x, .inr (1, [.ref dl, .int (nI L.length), .int (nI (b + 1)), .ref sb])), (dl, .inl (cC, 160, .inl f))]) hD [0, 1, 2] (by decide) rfl) hS
                  · have h6 : L.getD b 0 = 48 := (nI_eq (by omega) (by decide)).mp h6
                    exact absurd (hcb2.symm.trans h6) gg25
              · rw [hab47] at hP hD
                replace hP : va_P (dC, dI) vwCl ([(pr, .inr (7, [.ref x])), (x, .inr (1, [.ref dl, .int (nI L.length), .int (nI b), .ref sb])), (dl, .inl (cC, 160, .inl f))] ++ fz) H := hP
                replace hD : va_D A ([(pr, .inr (7, [.ref x])), (x, .inr (1, [.ref dl, .int (nI L.length), .int (nI b), .ref sb])), (dl, .inl (cC, 160, .inl f))] ++ fz) := hD
                exact absurd rfl gg45
      exact hloop _ a 0 0 _ _ ls rfl (by omega) (Or.inl ⟨rfl, rfl, rfl⟩) (lv_sub hl [0, 1, 2, 3] rfl) (zz_pickP (pre := [(pr, .inr (7, [.ref x])), (x, .inr (1, [.ref dl, .int (nI L.length), .int (nI a), .ref sb])), (dl, .inl (cC, 160, .inl f))]) (fz := fz) (wc := [(pr, .inr (7, [.ref x])), (x, .inr (1, [.ref dl, .int (nI L.length), .int (nI a), .ref sb])), (dl, .inl (cC, 160, .inl f))]) hP [0, 1, 2] rfl) (zz_pickD (pre := [(pr, .inr (7, [.ref x])), (x, .inr (1, [.ref dl, .int (nI L.length), .int (nI a), .ref sb])), (dl, .inl (cC, 160, .inl f))]) (fz := fz) (wc := [(pr, .inr (7, [.ref x])), (x, .inr (1, [.ref dl, .int (nI L.length), .int (nI a), .ref sb])), (dl, .inl (cC, 160, .inl f))]) hD [0, 1, 2] (by decide) rfl) hS
set_option maxHeartbeats 1000000 in
set_option maxRecDepth 100000 in
/-- sign() -/
theorem k_PR_sign (l : Launch) (dC : Nat → ClassId) (dI : Nat → Nat → Nat) (sz : Nat) (pr : Nat) (x : Nat) (dl : Nat) (sb : Nat) (cC : ClassId) (f : Nat → Int32) (L : List Nat) (a : Nat) (em : Nat) (aK : Nat → Nat) (aV : Nat → Nat) (fz : va_W) (hL : Drf L f) (ha : a ≤ L.length) : Met l y_PR_sign ws_PR_sign ({ frames := 1, cells := 0, slots := 0, locals := 21 }) (va_Pc [.ref pr] (fun U => U.heap.size = sz ∧ va_P (dC, dI) vwCl ([(pr, .inr (7, [.ref x])), (x, .inr (1, [.ref dl, .int (nI L.length), .int (nI a), .ref sb])), (dl, .inl (cC, 160, .inl f))] ++ fz) U.heap ∧ va_K (dC, dI) vwCl [(cC, .char)] U ∧ va_D (fun _ => True) ([(pr, .inr (7, [.ref x])), (x, .inr (1, [.ref dl, .int (nI L.length), .int (nI a), .ref sb])), (dl, .inl (cC, 160, .inl f))] ++ fz) ∧ EX em aK aV (va_A ([(pr, .inr (7, [.ref x])), (x, .inr (1, [.ref dl, .int (nI L.length), .int (nI a), .ref sb])), (dl, .inl (cC, 160, .inl f))] ++ fz) sz) U U.heap)) (va_Qi (fun (r : Int32) (u : Nat) => a ≤ u ∧ u ≤ L.length ∧ ((sgP (L.drop a) = none ∧ r = -1) ∨ (∃ s8 : Nat, sgP (L.drop a) = some (s8, L.drop u) ∧ r = nI s8 ∧ s8 ≤ 6))) (fun u t => va_P (dC, dI) vwCl ([(pr, .inr (7, [.ref x])), (x, .inr (1, [.ref dl, .int (nI L.length), .int (nI u), .ref sb])), (dl, .inl (cC, 160, .inl f))] ++ fz) t.heap ∧ va_K (dC, dI) vwCl [(cC, .char)] t ∧ va_D (va_A ([(pr, .inr (7, [.ref x])), (x, .inr (1, [.ref dl, .int (nI L.length), .int (nI a), .ref sb])), (dl, .inl (cC, 160, .inl f))] ++ fz) sz) ([(pr, .inr (7, [.ref x])), (x, .inr (1, [.ref dl, .int (nI L.length), .int (nI u), .ref sb])), (dl, .inl (cC, 160, .inl f))] ++ fz)) (va_A ([(pr, .inr (7, [.ref x])), (x, .inr (1, [.ref dl, .int (nI L.length), .int (nI a), .ref sb])), (dl, .inl (cC, 160, .inl f))] ++ fz) sz)) 0 0 (va_A ([(pr, .inr (7, [.ref x])), (x, .inr (1, [.ref dl, .int (nI L.length), .int (nI a), .ref sb])), (dl, .inl (cC, 160, .inl f))] ++ fz) sz) := by
  refine Met.ofW (cc := c_PR_sign) (maxL := 1) (ret := (some .int)) (by decide) rfl ?_
  intro p e s m args below meth c s₁ B hml hv
  obtain ⟨rfl, hsz, hP, hK, hD0, hE⟩ := hv
  have hx := B.exec
  have hb := B.bytes
  have hr := B.returns
  have hts := atoms_spec (ws := ws_PR_sign) B.pre
  have htb := fun w (h : w ∈ TBL) => hts w (List.mem_cons_of_mem _ h)
  have hown : s.vm.findClass R_PR = some m.cls := findClass_of_methodNamed B.named
  have hlocks := B.notSynchronized
  subst hsz
  have hD := hD0.self (sz := s.heap.size)
  generalize hAe : va_A ([(pr, .inr (7, [.ref x])), (x, .inr (1, [.ref dl, .int (nI L.length), .int (nI a), .ref sb])), (dl, .inl (cC, 160, .inl f))] ++ fz) s.heap.size = A at hD hE ⊢
  have hA : ∀ q : Nat, s.heap.size ≤ q → A q := fun q h => by rw [← hAe]; exact Or.inr h
  have hS : va_S A s.heap s.heap [] := va_S.rf
  have hP : va_P (dC, dI) vwCl ([(pr, .inr (7, [.ref x])), (x, .inr (1, [.ref dl, .int (nI L.length), .int (nI a), .ref sb])), (dl, .inl (cC, 160, .inl f))] ++ fz) s.heap := hP
  have hl := lv_entry ([.ref pr]) (n := 1) (Nat.le_of_ble_eq_true rfl)
  rw [lg_entry_eq]
  generalize (lg_sl ([.ref pr]) ++ List.replicate (1 - (lg_sl ([.ref pr])).length) Slot.unset).toArray = ls at hl ⊢
  replace hl : lv_has ls 1 [(0, .ref pr)] := hl
  have h160 : L.length ≤ 160 := hL.1
  have hda : hd0 (L.drop a) = L.getD a 0 := hd_drop
  have hda1 : hd0 ((L.drop a).drop 1) = L.getD (a + 1) 0 := by rw [drop_1, hd_drop]
  refine lv_aload_n hx hb d_PR_sign_0 rfl (lv_at hl 0 rfl) ?_
  refine va_get (D := (dC, dI)) (ci := 7) (v := .ref x) (C := R_PR) (T := T_PR) (N := 1) hx hb htb in_PR hown hK hP 0 rfl rfl 0 (by decide) (htb _ m_852) (fun _ h9 => h9) rfl d_PR_sign_1 ?_
  refine lv_bipush (v := 60) hx hb d_PR_sign_4 (by decide) ?_
  have hPc := hP.sub (ws' := [(x, .inr (1, [.ref dl, .int (nI L.length), .int (nI a), .ref sb])), (dl, .inl (cC, 160, .inl f))]) [1, 2] rfl
  have hDc := hD.sub (ws' := [(x, .inr (1, [.ref dl, .int (nI L.length), .int (nI a), .ref sb])), (dl, .inl (cC, 160, .inl f))]) [1, 2] (by decide) rfl
  have hFc := va_free (wc := [(x, .inr (1, [.ref dl, .int (nI L.length), .int (nI a), .ref sb])), (dl, .inl (cC, 160, .inl f))]) hD hS hA [1, 2] rfl
  have hKc := hK.sub (tys' := [(cC, .char)]) [0] rfl
  refine va_calli (va_runV (As := [.int (nI 60)]) (rest := []) ⟨hx, hb, hml, hown, htb⟩ (k_CU_took l dC dI _ x dl sb cC f L a 60 hL (by omega) (by decide) (by decide)) (cwV 1 htb (g_V (fun _ h => h) m_435 m_860 m_433 m_434 m_10) rfl rfl rfl (by decide +kernel) ⟨Nat.le_of_ble_eq_true rfl, Nat.le_of_ble_eq_true rfl⟩) ⟨fun a U g mk q => by obtain ⟨q0, q1, qP, qK, qD⟩ := q; exact ⟨q0, q1, qP, va_K.moved (u := U) (U := U.calling g mk a) (Vm.Alike.refl U.vm) qK, qD⟩, va_recv hK hP (ci := 1) rfl (q0 := 1) rfl, fun U hU hW => ⟨rfl, by rw [hU], by rw [hU]; exact hPc, va_K.moved hW.alike hKc, hDc.weaken (fun _ _ _ _ => trivial)⟩⟩ rfl rfl hl.1 rfl (lv_room (Nat.le_of_ble_eq_true rfl)) d_PR_sign_6 ⟨Nat.le_of_ble_eq_true rfl, Nat.le_of_ble_eq_true rfl⟩) hS (fun q _ h => hFc q h) hFc (fun r22 u21 t H1 locs ht hvm hw23 hB hz1 hk1 hS => ?_)
  obtain ⟨hP1, hK1, hD1⟩ := hB
  rw [ht] at hP1
  have hK1 := va_K.moved hvm.symm hK1
  replace hw23 : (r22 = 1 ∧ L.getD a 0 = 60 ∧ a < L.length ∧ u21 = a + 1) ∨ (r22 = 0 ∧ L.getD a 0 ≠ 60 ∧ u21 = a) := hw23
  obtain ⟨hP, hD⟩ := zz_joinN (pre := [(pr, .inr (7, [.ref x])), (x, .inr (1, [.ref dl, .int (nI L.length), .int (nI a), .ref sb])), (dl, .inl (cC, 160, .inl f))]) (fz := fz) (wc := [(x, .inr (1, [.ref dl, .int (nI L.length), .int (nI a), .ref sb])), (dl, .inl (cC, 160, .inl f))]) (wr := [(pr, .inr (7, [.ref x]))]) (w1 := [(x, .inr (1, [.ref dl, .int (nI L.length), .int (nI u21), .ref sb])), (dl, .inl (cC, 160, .inl f))]) hP hD [1, 2] [0] rfl rfl (by decide) (by decide) hk1 hFc hP1 hD1
  have hK := (hK.sub (tys' := []) [] rfl).app hK1
  generalize H1 = H at hP hS ⊢
  replace hP : va_P (dC, dI) vwCl ([(pr, .inr (7, [.ref x])), (x, .inr (1, [.ref dl, .int (nI L.length), .int (nI u21), .ref sb])), (dl, .inl (cC, 160, .inl f))] ++ fz) H := hP
  replace hD : va_D A ([(pr, .inr (7, [.ref x])), (x, .inr (1, [.ref dl, .int (nI L.length), .int (nI u21), .ref sb])), (dl, .inl (cC, 160, .inl f))] ++ fz) := hD
  replace hK : va_K (dC, dI) vwCl [(cC, .char)] s := hK
  clear hPc hDc hFc hKc hP1 hD1 hK1 hk1 hz1 ht hvm
  rcases hw23 with ⟨rfl, gg25, gl26, hab27⟩ | ⟨rfl, gg25, hab27⟩
  · rw [hab27] at hP hD
    replace hP : va_P (dC, dI) vwCl ([(pr, .inr (7, [.ref x])), (x, .inr (1, [.ref dl, .int (nI L.length), .int (nI (a + 1)), .ref sb])), (dl, .inl (cC, 160, .inl f))] ++ fz) H := hP
    replace hD : va_D A ([(pr, .inr (7, [.ref x])), (x, .inr (1, [.ref dl, .int (nI L.length), .int (nI (a + 1)), .ref sb])), (dl, .inl (cC, 160, .inl f))] ++ fz) := hD
    refine lv_if_eq (tgt := 30) hx hb d_PR_sign_9 rfl (fun h9 => absurd h9 (by decide)) (fun _ => ?_)
    refine lv_aload_n hx hb d_PR_sign_12 rfl (lv_at hl 0 rfl) ?_
    refine va_get (D := (dC, dI)) (ci := 7) (v := .ref x) (C := R_PR) (T := T_PR) (N := 1) hx hb htb in_PR hown hK hP 0 rfl rfl 0 (by decide) (htb _ m_852) (fun _ h9 => h9) rfl d_PR_sign_13 ?_
    refine lv_bipush (v := 61) hx hb d_PR_sign_16 (by decide) ?_
    have hPc := hP.sub (ws' := [(x, .inr (1, [.ref dl, .int (nI L.length), .int (nI (a + 1)), .ref sb])), (dl, .inl (cC, 160, .inl f))]) [1, 2] rfl
    have hDc := hD.sub (ws' := [(x, .inr (1, [.ref dl, .int (nI L.length), .int (nI (a + 1)), .ref sb])), (dl, .inl (cC, 160, .inl f))]) [1, 2] (by decide) rfl
    have hFc := va_free (wc := [(x, .inr (1, [.ref dl, .int (nI L.length), .int (nI (a + 1)), .ref sb])), (dl, .inl (cC, 160, .inl f))]) hD hS hA [1, 2] rfl
    have hKc := hK.sub (tys' := [(cC, .char)]) [0] rfl
    refine va_calli (va_runV (As := [.int (nI 61)]) (rest := []) ⟨hx, hb, hml, hown, htb⟩ (k_CU_took l dC dI _ x dl sb cC f L (a + 1) 61 hL (by omega) (by decide) (by decide)) (cwV 1 htb (g_V (fun _ h => h) m_435 m_860 m_433 m_434 m_10) rfl rfl rfl (by decide +kernel) ⟨Nat.le_of_ble_eq_true rfl, Nat.le_of_ble_eq_true rfl⟩) ⟨fun a U g mk q => by obtain ⟨q0, q1, qP, qK, qD⟩ := q; exact ⟨q0, q1, qP, va_K.moved (u := U) (U := U.calling g mk a) (Vm.Alike.refl U.vm) qK, qD⟩, va_recv hK hP (ci := 1) rfl (q0 := 1) rfl, fun U hU hW => ⟨rfl, by rw [hU], by rw [hU]; exact hPc, va_K.moved hW.alike hKc, hDc.weaken (fun _ _ _ _ => trivial)⟩⟩ rfl rfl hl.1 rfl (lv_room (Nat.le_of_ble_eq_true rfl)) d_PR_sign_18 ⟨Nat.le_of_ble_eq_true rfl, Nat.le_of_ble_eq_true rfl⟩) hS (fun q _ h => hFc q h) hFc (fun r29 u28 t H1 locs ht hvm hw30 hB hz1 hk1 hS => ?_)
    obtain ⟨hP1, hK1, hD1⟩ := hB
    rw [ht] at hP1
    have hK1 := va_K.moved hvm.symm hK1
    replace hw30 : (r29 = 1 ∧ L.getD (a + 1) 0 = 61 ∧ (a + 1) < L.length ∧ u28 = (a + 1) + 1) ∨ (r29 = 0 ∧ L.getD (a + 1) 0 ≠ 61 ∧ u28 = (a + 1)) := hw30
    obtain ⟨hP, hD⟩ := zz_joinN (pre := [(pr, .inr (7, [.ref x])), (x, .inr (1, [.ref dl, .int (nI L.length), .int (nI (a + 1)), .ref sb])), (dl, .inl (cC, 160, .inl f))]) (fz := fz) (wc := [(x, .inr (1, [.ref dl, .int (nI L.length), .int (nI (a + 1)), .ref sb])), (dl, .inl (cC, 160, .inl f))]) (wr := [(pr, .inr (7, [.ref x]))]) (w1 := [(x, .inr (1, [.ref dl, .int (nI L.length), .int (nI u28), .ref sb])), (dl, .inl (cC, 160, .inl f))]) hP hD [1, 2] [0] rfl rfl (by decide) (by decide) hk1 hFc hP1 hD1
    have hK := (hK.sub (tys' := []) [] rfl).app hK1
    generalize H1 = H at hP hS ⊢
    replace hP : va_P (dC, dI) vwCl ([(pr, .inr (7, [.ref x])), (x, .inr (1, [.ref dl, .int (nI L.length), .int (nI u28), .ref sb])), (dl, .inl (cC, 160, .inl f))] ++ fz) H := hP
    replace hD : va_D A ([(pr, .inr (7, [.ref x])), (x, .inr (1, [.ref dl, .int (nI L.length), .int (nI u28), .ref sb])), (dl, .inl (cC, 160, .inl f))] ++ fz) := hD
    replace hK : va_K (dC, dI) vwCl [(cC, .char)] s := hK
    clear hPc hDc hFc hKc hP1 hD1 hK1 hk1 hz1 ht hvm
    rcases hw30 with ⟨rfl, gg32, gl33, hab34⟩ | ⟨rfl, gg32, hab34⟩
    · rw [hab34] at hP hD
      replace hP : va_P (dC, dI) vwCl ([(pr, .inr (7, [.ref x])), (x, .inr (1, [.ref dl, .int (nI L.length), .int (nI ((a + 1) + 1)), .ref sb])), (dl, .inl (cC, 160, .inl f))] ++ fz) H := hP
      replace hD : va_D A ([(pr, .inr (7, [.ref x])), (x, .inr (1, [.ref dl, .int (nI L.length), .int (nI ((a + 1) + 1)), .ref sb])), (dl, .inl (cC, 160, .inl f))] ++ fz) := hD
      refine lv_if_eq (tgt := 28) hx hb d_PR_sign_21 rfl (fun h9 => absurd h9 (by decide)) (fun _ => ?_)
      refine lv_iconst (v := 4) hx hb d_PR_sign_24 (by decide) ?_
      refine lv_goto (tgt := 29) hx hb d_PR_sign_25 rfl ?_
      have hP9 := zz_pickP (pre := [(pr, .inr (7, [.ref x])), (x, .inr (1, [.ref dl, .int (nI L.length), .int (nI ((a + 1) + 1)), .ref sb])), (dl, .inl (cC, 160, .inl f))]) (fz := fz) (wc := [(pr, .inr (7, [.ref x])), (x, .inr (1, [.ref dl, .int (nI L.length), .int (nI ((a + 1) + 1)), .ref sb])), (dl, .inl (cC, 160, .inl f))]) hP [0, 1, 2] rfl
      have hD9 := zz_pickD (pre := [(pr, .inr (7, [.ref x])), (x, .inr (1, [.ref dl, .int (nI L.length), .int (nI ((a + 1) + 1)), .ref sb])), (dl, .inl (cC, 160, .inl f))]) (fz := fz) (wc := [(pr, .inr (7, [.ref x])), (x, .inr (1, [.ref dl, .int (nI L.length), .int (nI ((a + 1) + 1)), .ref sb])), (dl, .inl (cC, 160, .inl f))]) hD [0, 1, 2] (by decide) rfl
      have hK9 := hK.sub (tys' := [(cC, .char)]) [0] rfl
      refine W.widen (k := 0) (n := 0) (Nat.le_of_ble_eq_true rfl) (Nat.le_of_ble_eq_true rfl) ?_
      exact W.iret (v := 4) hx hb hr (fun t ht hW => ⟨⟨4, ((a + 1) + 1), rfl, ⟨by omega, by omega, Or.inr ⟨4, by unfold sgP; rw [hda, hda1, if_pos gg25, if_pos gg32, drop_2], rfl, by decide⟩⟩, ⟨by rw [ht]; exact hP9, va_K.moved hW.alike hK9, hD9⟩⟩, hS.F ht⟩) hS.2.2 d_PR_sign_29
    · rw [hab34] at hP hD
      replace hP : va_P (dC, dI) vwCl ([(pr, .inr (7, [.ref x])), (x, .inr (1, [.ref dl, .int (nI L.length), .int (nI (a + 1)), .ref sb])), (dl, .inl (cC, 160, .inl f))] ++ fz) H := hP
      replace hD : va_D A ([(pr, .inr (7, [.ref x])), (x, .inr (1, [.ref dl, .int (nI L.length), .int (nI (a + 1)), .ref sb])), (dl, .inl (cC, 160, .inl f))] ++ fz) := hD
      refine lv_if_eq (tgt := 28) hx hb d_PR_sign_21 rfl (fun _ => ?_) (fun h9 => absurd (rfl) h9)
      refine lv_iconst (v := 3) hx hb d_PR_sign_28 (by decide) ?_
      have hP9 := zz_pickP (pre := [(pr, .inr (7, [.ref x])), (x, .inr (1, [.ref dl, .int (nI L.length), .int (nI (a + 1)), .ref sb])), (dl, .inl (cC, 160, .inl f))]) (fz := fz) (wc := [(pr, .inr (7, [.ref x])), (x, .inr (1, [.ref dl, .int (nI L.length), .int (nI (a + 1)), .ref sb])), (dl, .inl (cC, 160, .inl f))]) hP [0, 1, 2] rfl
      have hD9 := zz_pickD (pre := [(pr, .inr (7, [.ref x])), (x, .inr (1, [.ref dl, .int (nI L.length), .int (nI (a + 1)), .ref sb])), (dl, .inl (cC, 160, .inl f))]) (fz := fz) (wc := [(pr, .inr (7, [.ref x])), (x, .inr (1, [.ref dl, .int (nI L.length), .int (nI (a + 1)), .ref sb])), (dl, .inl (cC, 160, .inl f))]) hD [0, 1, 2] (by decide) rfl
      have hK9 := hK.sub (tys' := [(cC, .char)]) [0] rfl
      refine W.widen (k := 0) (n := 0) (Nat.le_of_ble_eq_true rfl) (Nat.le_of_ble_eq_true rfl) ?_
      exact W.iret (v := 3) hx hb hr (fun t ht hW => ⟨⟨3, (a + 1), rfl, ⟨by omega, by omega, Or.inr ⟨3, by unfold sgP; rw [hda, hda1, if_pos gg25, if_neg gg32, drop_1], rfl, by decide⟩⟩, ⟨by rw [ht]; exact hP9, va_K.moved hW.alike hK9, hD9⟩⟩, hS.F ht⟩) hS.2.2 d_PR_sign_29
  · rw [hab27] at hP hD
    replace hP : va_P (dC, dI) vwCl ([(pr, .inr (7, [.ref x])), (x, .inr (1, [.ref dl, .int (nI L.length), .int (nI a), .ref sb])), (dl, .inl (cC, 160, .inl f))] ++ fz) H := hP
    replace hD : va_D A ([(pr, .inr (7, [.ref x])), (x, .inr (1, [.ref dl, .int (nI L.length), .int (nI a), .ref sb])), (dl, .inl (cC, 160, .inl f))] ++ fz) := hD
    refine lv_if_eq (tgt := 30) hx hb d_PR_sign_9 rfl (fun _ => ?_) (fun h9 => absurd (rfl) h9)
    refine lv_aload_n hx hb d_PR_sign_30 rfl (lv_at hl 0 rfl) ?_
    refine va_get (D := (dC, dI)) (ci := 7) (v := .ref x) (C := R_PR) (T := T_PR) (N := 1) hx hb htb in_PR hown hK hP 0 rfl rfl 0 (by decide) (htb _ m_852) (fun _ h9 => h9) rfl d_PR_sign_31 ?_
    refine lv_bipush (v := 62) hx hb d_PR_sign_34 (by decide) ?_
    have hPc := hP.sub (ws' := [(x, .inr (1, [.ref dl, .int (nI L.length), .int (nI a), .ref sb])), (dl, .inl (cC, 160, .inl f))]) [1, 2] rfl
    have hDc := hD.sub (ws' := [(x, .inr (1, [.ref dl, .int (nI L.length), .int (nI a), .ref sb])), (dl, .inl (cC, 160, .inl f))]) [1, 2] (by decide) rfl
    have hFc := va_free (wc := [(x, .inr (1, [.ref dl, .int (nI L.length), .int (nI a), .ref sb])), (dl, .inl (cC, 160, .inl f))]) hD hS hA [1, 2] rfl
    have hKc := hK.sub (tys' := [(cC, .char)]) [0] rfl
    refine va_calli (va_runV (As := [.int (nI 62)]) (rest := []) ⟨hx, hb, hml, hown, htb⟩ (k_CU_took l dC dI _ x dl sb cC f L a 62 hL (by omega) (by decide) (by decide)) (cwV 1 htb (g_V (fun _ h => h) m_435 m_860 m_433 m_434 m_10) rfl rfl rfl (by decide +kernel) ⟨Nat.le_of_ble_eq_true rfl, Nat.le_of_ble_eq_true rfl⟩) ⟨fun a U g mk q => by obtain ⟨q0, q1, qP, qK, qD⟩ := q; exact ⟨q0, q1, qP, va_K.moved (u := U) (U := U.calling g mk a) (Vm.Alike.refl U.vm) qK, qD⟩, va_recv hK hP (ci := 1) rfl (q0 := 1) rfl, fun U hU hW => ⟨rfl, by rw [hU], by rw [hU]; exact hPc, va_K.moved hW.alike hKc, hDc.weaken (fun _ _ _ _ => trivial)⟩⟩ rfl rfl hl.1 rfl (lv_room (Nat.le_of_ble_eq_true rfl)) d_PR_sign_36 ⟨Nat.le_of_ble_eq_true rfl, Nat.le_of_ble_eq_true rfl⟩) hS (fun q _ h => hFc q h) hFc (fun r29 u28 t H1 locs ht hvm hw30 hB hz1 hk1 hS => ?_)
    obtain ⟨hP1, hK1, hD1⟩ := hB
    rw [ht] at hP1
    have hK1 := va_K.moved hvm.symm hK1
    replace hw30 : (r29 = 1 ∧ L.getD a 0 = 62 ∧ a < L.length ∧ u28 = a + 1) ∨ (r29 = 0 ∧ L.getD a 0 ≠ 62 ∧ u28 = a) := hw30
    obtain ⟨hP, hD⟩ := zz_joinN (pre := [(pr, .inr (7, [.ref x])), (x, .inr (1, [.ref dl, .int (nI L.length), .int (nI a), .ref sb])), (dl, .inl (cC, 160, .inl f))]) (fz := fz) (wc := [(x, .inr (1, [.ref dl, .int (nI L.length), .int (nI a), .ref sb])), (dl, .inl (cC, 160, .inl f))]) (wr := [(pr, .inr (7, [.ref x]))]) (w1 := [(x, .inr (1, [.ref dl, .int (nI L.length), .int (nI u28), .ref sb])), (dl, .inl (cC, 160, .inl f))]) hP hD [1, 2] [0] rfl rfl (by decide) (by decide) hk1 hFc hP1 hD1
    have hK := (hK.sub (tys' := []) [] rfl).app hK1
    generalize H1 = H at hP hS ⊢
    replace hP : va_P (dC, dI) vwCl ([(pr, .inr (7, [.ref x])), (x, .inr (1, [.ref dl, .int (nI L.length), .int (nI u28), .ref sb])), (dl, .inl (cC, 160, .inl f))] ++ fz) H := hP
    replace hD : va_D A ([(pr, .inr (7, [.ref x])), (x, .inr (1, [.ref dl, .int (nI L.length), .int (nI u28), .ref sb])), (dl, .inl (cC, 160, .inl f))] ++ fz) := hD
    replace hK : va_K (dC, dI) vwCl [(cC, .char)] s := hK
    clear hPc hDc hFc hKc hP1 hD1 hK1 hk1 hz1 ht hvm
    rcases hw30 with ⟨rfl, gg32, gl33, hab34⟩ | ⟨rfl, gg32, hab34⟩
    · rw [hab34] at hP hD
      replace hP : va_P (dC, dI) vwCl ([(pr, .inr (7, [.ref x])), (x, .inr (1, [.ref dl, .int (nI L.length), .int (nI (a + 1)), .ref sb])), (dl, .inl (cC, 160, .inl f))] ++ fz) H := hP
      replace hD : va_D A ([(pr, .inr (7, [.ref x])), (x, .inr (1, [.ref dl, .int (nI L.length), .int (nI (a + 1)), .ref sb])), (dl, .inl (cC, 160, .inl f))] ++ fz) := hD
      refine lv_if_eq (tgt := 61) hx hb d_PR_sign_39 rfl (fun h9 => absurd h9 (by decide)) (fun _ => ?_)
      refine lv_aload_n hx hb d_PR_sign_42 rfl (lv_at hl 0 rfl) ?_
      refine va_get (D := (dC, dI)) (ci := 7) (v := .ref x) (C := R_PR) (T := T_PR) (N := 1) hx hb htb in_PR hown hK hP 0 rfl rfl 0 (by decide) (htb _ m_852) (fun _ h9 => h9) rfl d_PR_sign_43 ?_
      refine lv_bipush (v := 61) hx hb d_PR_sign_46 (by decide) ?_
      have hPc := hP.sub (ws' := [(x, .inr (1, [.ref dl, .int (nI L.length), .int (nI (a + 1)), .ref sb])), (dl, .inl (cC, 160, .inl f))]) [1, 2] rfl
      have hDc := hD.sub (ws' := [(x, .inr (1, [.ref dl, .int (nI L.length), .int (nI (a + 1)), .ref sb])), (dl, .inl (cC, 160, .inl f))]) [1, 2] (by decide) rfl
      have hFc := va_free (wc := [(x, .inr (1, [.ref dl, .int (nI L.length), .int (nI (a + 1)), .ref sb])), (dl, .inl (cC, 160, .inl f))]) hD hS hA [1, 2] rfl
      have hKc := hK.sub (tys' := [(cC, .char)]) [0] rfl
      refine va_calli (va_runV (As := [.int (nI 61)]) (rest := []) ⟨hx, hb, hml, hown, htb⟩ (k_CU_took l dC dI _ x dl sb cC f L (a + 1) 61 hL (by omega) (by decide) (by decide)) (cwV 1 htb (g_V (fun _ h => h) m_435 m_860 m_433 m_434 m_10) rfl rfl rfl (by decide +kernel) ⟨Nat.le_of_ble_eq_true rfl, Nat.le_of_ble_eq_true rfl⟩) ⟨fun a U g mk q => by obtain ⟨q0, q1, qP, qK, qD⟩ := q; exact ⟨q0, q1, qP, va_K.moved (u := U) (U := U.calling g mk a) (Vm.Alike.refl U.vm) qK, qD⟩, va_recv hK hP (ci := 1) rfl (q0 := 1) rfl, fun U hU hW => ⟨rfl, by rw [hU], by rw [hU]; exact hPc, va_K.moved hW.alike hKc, hDc.weaken (fun _ _ _ _ => trivial)⟩⟩ rfl rfl hl.1 rfl (lv_room (Nat.le_of_ble_eq_true rfl)) d_PR_sign_48 ⟨Nat.le_of_ble_eq_true rfl, Nat.le_of_ble_eq_true rfl⟩) hS (fun q _ h => hFc q h) hFc (fun r36 u35 t H1 locs ht hvm hw37 hB hz1 hk1 hS => ?_)
      obtain ⟨hP1, hK1, hD1⟩ := hB
      rw [ht] at hP1
      have hK1 := va_K.moved hvm.symm hK1
      replace hw37 : (r36 = 1 ∧ L.getD (a + 1) 0 = 61 ∧ (a + 1) < L.length ∧ u35 = (a + 1) + 1) ∨ (r36 = 0 ∧ L.getD (a + 1) 0 ≠ 61 ∧ u35 = (a + 1)) := hw37
      obtain ⟨hP, hD⟩ := zz_joinN (pre := [(pr, .inr (7, [.ref x])), (x, .inr (1, [.ref dl, .int (nI L.length), .int (nI (a + 1)), .ref sb])), (dl, .inl (cC, 160, .inl f))]) (fz := fz) (wc := [(x, .inr (1, [.ref dl, .int (nI L.length), .int (nI (a + 1)), .ref sb])), (dl, .inl (cC, 160, .inl f))]) (wr := [(pr, .inr (7, [.ref x]))]) (w1 := [(x, .inr (1, [.ref dl, .int (nI L.length), .int (nI u35), .ref sb])), (dl, .inl (cC, 160, .inl f))]) hP hD [1, 2] [0] rfl rfl (by decide) (by decide) hk1 hFc hP1 hD1
      have hK := (hK.sub (tys' := []) [] rfl).app hK1
      generalize H1 = H at hP hS ⊢
      replace hP : va_P (dC, dI) vwCl ([(pr, .inr (7, [.ref x])), (x, .inr (1, [.ref dl, .int (nI L.length), .int (nI u35), .ref sb])), (dl, .inl (cC, 160, .inl f))] ++ fz) H := hP
      replace hD : va_D A ([(pr, .inr (7, [.ref x])), (x, .inr (1, [.ref dl, .int (nI L.length), .int (nI u35), .ref sb])), (dl, .inl (cC, 160, .inl f))] ++ fz) := hD
      replace hK : va_K (dC, dI) vwCl [(cC, .char)] s := hK
      clear hPc hDc hFc hKc hP1 hD1 hK1 hk1 hz1 ht hvm
      rcases hw37 with ⟨rfl, gg39, gl40, hab41⟩ | ⟨rfl, gg39, hab41⟩
      · rw [hab41] at hP hD
        replace hP : va_P (dC, dI) vwCl ([(pr, .inr (7, [.ref x])), (x, .inr (1, [.ref dl, .int (nI L.length), .int (nI ((a + 1) + 1)), .ref sb])), (dl, .inl (cC, 160, .inl f))] ++ fz) H := hP
        replace hD : va_D A ([(pr, .inr (7, [.ref x])), (x, .inr (1, [.ref dl, .int (nI L.length), .int (nI ((a + 1) + 1)), .ref sb])), (dl, .inl (cC, 160, .inl f))] ++ fz) := hD
        refine lv_if_eq (tgt := 59) hx hb d_PR_sign_51 rfl (fun h9 => absurd h9 (by decide)) (fun _ => ?_)
        refine lv_bipush (v := 6) hx hb d_PR_sign_54 (by decide) ?_
        refine lv_goto (tgt := 60) hx hb d_PR_sign_56 rfl ?_
        have hP9 := zz_pickP (pre := [(pr, .inr (7, [.ref x])), (x, .inr (1, [.ref dl, .int (nI L.length), .int (nI ((a + 1) + 1)), .ref sb])), (dl, .inl (cC, 160, .inl f))]) (fz := fz) (wc := [(pr, .inr (7, [.ref x])), (x, .inr (1, [.ref dl, .int (nI L.length), .int (nI ((a + 1) + 1)), .ref sb])), (dl, .inl (cC, 160, .inl f))]) hP [0, 1, 2] rfl
        have hD9 := zz_pickD (pre := [(pr, .inr (7, [.ref x])), (x, .inr (1, [.ref dl, .int (nI L.length), .int (nI ((a + 1) + 1)), .ref sb])), (dl, .inl (cC, 160, .inl f))]) (fz := fz) (wc := [(pr, .inr (7, [.ref x])), (x, .inr (1, [.ref dl, .int (nI L.length), .int (nI ((a + 1) + 1)), .ref sb])), (dl, .inl (cC, 160, .inl f))]) hD [0, 1, 2] (by decide) rfl
        have hK9 := hK.sub (tys' := [(cC, .char)]) [0] rfl
        refine W.widen (k := 0) (n := 0) (Nat.le_of_ble_eq_true rfl) (Nat.le_of_ble_eq_true rfl) ?_
        exact W.iret (v := 6) hx hb hr (fun t ht hW => ⟨⟨6, ((a + 1) + 1), rfl, ⟨by omega, by omega, Or.inr ⟨6, by unfold sgP; rw [hda, hda1, if_neg gg25, if_pos gg32, if_pos gg39, drop_2], rfl, by decide⟩⟩, ⟨by rw [ht]; exact hP9, va_K.moved hW.alike hK9, hD9⟩⟩, hS.F ht⟩) hS.2.2 d_PR_sign_60
      · rw [hab41] at hP hD
        replace hP : va_P (dC, dI) vwCl ([(pr, .inr (7, [.ref x])), (x, .inr (1, [.ref dl, .int (nI L.length), .int (nI (a + 1)), .ref sb])), (dl, .inl (cC, 160, .inl f))] ++ fz) H := hP
        replace hD : va_D A ([(pr, .inr (7, [.ref x])), (x, .inr (1, [.ref dl, .int (nI L.length), .int (nI (a + 1)), .ref sb])), (dl, .inl (cC, 160, .inl f))] ++ fz) := hD
        refine lv_if_eq (tgt := 59) hx hb d_PR_sign_51 rfl (fun _ => ?_) (fun h9 => absurd (rfl) h9)
        refine lv_iconst (v := 5) hx hb d_PR_sign_59 (by decide) ?_
        have hP9 := zz_pickP (pre := [(pr, .inr (7, [.ref x])), (x, .inr (1, [.ref dl, .int (nI L.length), .int (nI (a + 1)), .ref sb])), (dl, .inl (cC, 160, .inl f))]) (fz := fz) (wc := [(pr, .inr (7, [.ref x])), (x, .inr (1, [.ref dl, .int (nI L.length), .int (nI (a + 1)), .ref sb])), (dl, .inl (cC, 160, .inl f))]) hP [0, 1, 2] rfl
        have hD9 := zz_pickD (pre := [(pr, .inr (7, [.ref x])), (x, .inr (1, [.ref dl, .int (nI L.length), .int (nI (a + 1)), .ref sb])), (dl, .inl (cC, 160, .inl f))]) (fz := fz) (wc := [(pr, .inr (7, [.ref x])), (x, .inr (1, [.ref dl, .int (nI L.length), .int (nI (a + 1)), .ref sb])), (dl, .inl (cC, 160, .inl f))]) hD [0, 1, 2] (by decide) rfl
        have hK9 := hK.sub (tys' := [(cC, .char)]) [0] rfl
        refine W.widen (k := 0) (n := 0) (Nat.le_of_ble_eq_true rfl) (Nat.le_of_ble_eq_true rfl) ?_
        exact W.iret (v := 5) hx hb hr (fun t ht hW => ⟨⟨5, (a + 1), rfl, ⟨by omega, by omega, Or.inr ⟨5, by unfold sgP; rw [hda, hda1, if_neg gg25, if_pos gg32, if_neg gg39, drop_1], rfl, by decide⟩⟩, ⟨by rw [ht]; exact hP9, va_K.moved hW.alike hK9, hD9⟩⟩, hS.F ht⟩) hS.2.2 d_PR_sign_60
    · rw [hab34] at hP hD
      replace hP : va_P (dC, dI) vwCl ([(pr, .inr (7, [.ref x])), (x, .inr (1, [.ref dl, .int (nI L.length), .int (nI a), .ref sb])), (dl, .inl (cC, 160, .inl f))] ++ fz) H := hP
      replace hD : va_D A ([(pr, .inr (7, [.ref x])), (x, .inr (1, [.ref dl, .int (nI L.length), .int (nI a), .ref sb])), (dl, .inl (cC, 160, .inl f))] ++ fz) := hD
      refine lv_if_eq (tgt := 61) hx hb d_PR_sign_39 rfl (fun _ => ?_) (fun h9 => absurd (rfl) h9)
      refine lv_aload_n hx hb d_PR_sign_61 rfl (lv_at hl 0 rfl) ?_
      refine va_get (D := (dC, dI)) (ci := 7) (v := .ref x) (C := R_PR) (T := T_PR) (N := 1) hx hb htb in_PR hown hK hP 0 rfl rfl 0 (by decide) (htb _ m_852) (fun _ h9 => h9) rfl d_PR_sign_62 ?_
      refine lv_bipush (v := 61) hx hb d_PR_sign_65 (by decide) ?_
      have hPc := hP.sub (ws' := [(x, .inr (1, [.ref dl, .int (nI L.length), .int (nI a), .ref sb])), (dl, .inl (cC, 160, .inl f))]) [1, 2] rfl
      have hDc := hD.sub (ws' := [(x, .inr (1, [.ref dl, .int (nI L.length), .int (nI a), .ref sb])), (dl, .inl (cC, 160, .inl f))]) [1, 2] (by decide) rfl
      have hFc := va_free (wc := [(x, .inr (1, [.ref dl, .int (nI L.length), .int (nI a), .ref sb])), (dl, .inl (cC, 160, .inl f))]) hD hS hA [1, 2] rfl
      have hKc := hK.sub (tys' := [(cC, .char)]) [0] rfl
      refine va_calli (va_runV (As := [.int (nI 61)]) (rest := []) ⟨hx, hb, hml, hown, htb⟩ (k_CU_took l dC dI _ x dl sb cC f L a 61 hL (by omega) (by decide) (by decide)) (cwV 1 htb (g_V (fun _ h => h) m_435 m_860 m_433 m_434 m_10) rfl rfl rfl (by decide +kernel) ⟨Nat.le_of_ble_eq_true rfl, Nat.le_of_ble_eq_true rfl⟩) ⟨fun a U g mk q => by obtain ⟨q0, q1, qP, qK, qD⟩ := q; exact ⟨q0, q1, qP, va_K.moved (u := U) (U := U.calling g mk a) (Vm.Alike.refl U.vm) qK, qD⟩, va_recv hK hP (ci := 1) rfl (q0 := 1) rfl, fun U hU hW => ⟨rfl, by rw [hU], by rw [hU]; exact hPc, va_K.moved hW.alike hKc, hDc.weaken (fun _ _ _ _ => trivial)⟩⟩ rfl rfl hl.1 rfl (lv_room (Nat.le_of_ble_eq_true rfl)) d_PR_sign_67 ⟨Nat.le_of_ble_eq_true rfl, Nat.le_of_ble_eq_true rfl⟩) hS (fun q _ h => hFc q h) hFc (fun r36 u35 t H1 locs ht hvm hw37 hB hz1 hk1 hS => ?_)
      obtain ⟨hP1, hK1, hD1⟩ := hB
      rw [ht] at hP1
      have hK1 := va_K.moved hvm.symm hK1
      replace hw37 : (r36 = 1 ∧ L.getD a 0 = 61 ∧ a < L.length ∧ u35 = a + 1) ∨ (r36 = 0 ∧ L.getD a 0 ≠ 61 ∧ u35 = a) := hw37
      obtain ⟨hP, hD⟩ := zz_joinN (pre := [(pr, .inr (7, [.ref x])), (x, .inr (1, [.ref dl, .int (nI L.length), .int (nI a), .ref sb])), (dl, .inl (cC, 160, .inl f))]) (fz := fz) (wc := [(x, .inr (1, [.ref dl, .int (nI L.length), .int (nI a), .ref sb])), (dl, .inl (cC, 160, .inl f))]) (wr := [(pr, .inr (7, [.ref x]))]) (w1 := [(x, .inr (1, [.ref dl, .int (nI L.length), .int (nI u35), .ref sb])), (dl, .inl (cC, 160, .inl f))]) hP hD [1, 2] [0] rfl rfl (by decide) (by decide) hk1 hFc hP1 hD1
      have hK := (hK.sub (tys' := []) [] rfl).app hK1
      generalize H1 = H at hP hS ⊢
      replace hP : va_P (dC, dI) vwCl ([(pr, .inr (7, [.ref x])), (x, .inr (1, [.ref dl, .int (nI L.length), .int (nI u35), .ref sb])), (dl, .inl (cC, 160, .inl f))] ++ fz) H := hP
      replace hD : va_D A ([(pr, .inr (7, [.ref x])), (x, .inr (1, [.ref dl, .int (nI L.length), .int (nI u35), .ref sb])), (dl, .inl (cC, 160, .inl f))] ++ fz) := hD
      replace hK : va_K (dC, dI) vwCl [(cC, .char)] s := hK
      clear hPc hDc hFc hKc hP1 hD1 hK1 hk1 hz1 ht hvm
      rcases hw37 with ⟨rfl, gg39, gl40, hab41⟩ | ⟨rfl, gg39, hab41⟩
      · rw [hab41] at hP hD
        replace hP : va_P (dC, dI) vwCl ([(pr, .inr (7, [.ref x])), (x, .inr (1, [.ref dl, .int (nI L.length), .int (nI (a + 1)), .ref sb])), (dl, .inl (cC, 160, .inl f))] ++ fz) H := hP
        replace hD : va_D A ([(pr, .inr (7, [.ref x])), (x, .inr (1, [.ref dl, .int (nI L.length), .int (nI (a + 1)), .ref sb])), (dl, .inl (cC, 160, .inl f))] ++ fz) := hD
        refine lv_if_eq (tgt := 91) hx hb d_PR_sign_70 rfl (fun h9 => absurd h9 (by decide)) (fun _ => ?_)
        refine lv_aload_n hx hb d_PR_sign_73 rfl (lv_at hl 0 rfl) ?_
        refine va_get (D := (dC, dI)) (ci := 7) (v := .ref x) (C := R_PR) (T := T_PR) (N := 1) hx hb htb in_PR hown hK hP 0 rfl rfl 0 (by decide) (htb _ m_852) (fun _ h9 => h9) rfl d_PR_sign_74 ?_
        refine lv_bipush (v := 61) hx hb d_PR_sign_77 (by decide) ?_
        have hPc := hP.sub (ws' := [(x, .inr (1, [.ref dl, .int (nI L.length), .int (nI (a + 1)), .ref sb])), (dl, .inl (cC, 160, .inl f))]) [1, 2] rfl
        have hDc := hD.sub (ws' := [(x, .inr (1, [.ref dl, .int (nI L.length), .int (nI (a + 1)), .ref sb])), (dl, .inl (cC, 160, .inl f))]) [1, 2] (by decide) rfl
        have hFc := va_free (wc := [(x, .inr (1, [.ref dl, .int (nI L.length), .int (nI (a + 1)), .ref sb])), (dl, .inl (cC, 160, .inl f))]) hD hS hA [1, 2] rfl
        have hKc := hK.sub (tys' := [(cC, .char)]) [0] rfl
        refine va_calli (va_runV (As := [.int (nI 61)]) (rest := []) ⟨hx, hb, hml, hown, htb⟩ (k_CU_took l dC dI _ x dl sb cC f L (a + 1) 61 hL (by omega) (by decide) (by decide)) (cwV 1 htb (g_V (fun _ h => h) m_435 m_860 m_433 m_434 m_10) rfl rfl rfl (by decide +kernel) ⟨Nat.le_of_ble_eq_true rfl, Nat.le_of_ble_eq_true rfl⟩) ⟨fun a U g mk q => by obtain ⟨q0, q1, qP, qK, qD⟩ := q; exact ⟨q0, q1, qP, va_K.moved (u := U) (U := U.calling g mk a) (Vm.Alike.refl U.vm) qK, qD⟩, va_recv hK hP (ci := 1) rfl (q0 := 1) rfl, fun U hU hW => ⟨rfl, by rw [hU], by rw [hU]; exact hPc, va_K.moved hW.alike hKc, hDc.weaken (fun _ _ _ _ => trivial)⟩⟩ rfl rfl hl.1 rfl (lv_room (Nat.le_of_ble_eq_true rfl)) d_PR_sign_79 ⟨Nat.le_of_ble_eq_true rfl, Nat.le_of_ble_eq_true rfl⟩) hS (fun q _ h => hFc q h) hFc (fun r43 u42 t H1 locs ht hvm hw44 hB hz1 hk1 hS => ?_)
        obtain ⟨hP1, hK1, hD1⟩ := hB
        rw [ht] at hP1
        have hK1 := va_K.moved hvm.symm hK1
        replace hw44 : (r43 = 1 ∧ L.getD (a + 1) 0 = 61 ∧ (a + 1) < L.length ∧ u42 = (a + 1) + 1) ∨ (r43 = 0 ∧ L.getD (a + 1) 0 ≠ 61 ∧ u42 = (a + 1)) := hw44
        obtain ⟨hP, hD⟩ := zz_joinN (pre := [(pr, .inr (7, [.ref x])), (x, .inr (1, [.ref dl, .int (nI L.length), .int (nI (a + 1)), .ref sb])), (dl, .inl (cC, 160, .inl f))]) (fz := fz) (wc := [(x, .inr (1, [.ref dl, .int (nI L.length), .int (nI (a + 1)), .ref sb])), (dl, .inl (cC, 160, .inl f))]) (wr := [(pr, .inr (7, [.ref x]))]) (w1 := [(x, .inr (1, [.ref dl, .int (nI L.length), .int (nI u42), .ref sb])), (dl, .inl (cC, 160, .inl f))]) hP hD [1, 2] [0] rfl rfl (by decide) (by decide) hk1 hFc hP1 hD1
        have hK := (hK.sub (tys' := []) [] rfl).app hK1
        generalize H1 = H at hP hS ⊢
        replace hP : va_P (dC, dI) vwCl ([(pr, .inr (7, [.ref x])), (x, .inr (1, [.ref dl, .int (nI L.length), .int (nI u42), .ref sb])), (dl, .inl (cC, 160, .inl f))] ++ fz) H := hP
        replace hD : va_D A ([(pr, .inr (7, [.ref x])), (x, .inr (1, [.ref dl, .int (nI L.length), .int (nI u42), .ref sb])), (dl, .inl (cC, 160, .inl f))] ++ fz) := hD
        replace hK : va_K (dC, dI) vwCl [(cC, .char)] s := hK
        clear hPc hDc hFc hKc hP1 hD1 hK1 hk1 hz1 ht hvm
        rcases hw44 with ⟨rfl, gg46, gl47, hab48⟩ | ⟨rfl, gg46, hab48⟩
        · rw [hab48] at hP hD
          replace hP : va_P (dC, dI) vwCl ([(pr, .inr (7, [.ref x])), (x, .inr (1, [.ref dl, .int (nI L.length), .int (nI ((a + 1) + 1)), .ref sb])), (dl, .inl (cC, 160, .inl f))] ++ fz) H := hP
          replace hD : va_D A ([(pr, .inr (7, [.ref x])), (x, .inr (1, [.ref dl, .int (nI L.length), .int (nI ((a + 1) + 1)), .ref sb])), (dl, .inl (cC, 160, .inl f))] ++ fz) := hD
          refine lv_if_eq (tgt := 89) hx hb d_PR_sign_82 rfl (fun h9 => absurd h9 (by decide)) (fun _ => ?_)
          refine lv_iconst (v := 1) hx hb d_PR_sign_85 (by decide) ?_
          refine lv_goto (tgt := 90) hx hb d_PR_sign_86 rfl ?_
          have hP9 := zz_pickP (pre := [(pr, .inr (7, [.ref x])), (x, .inr (1, [.ref dl, .int (nI L.length), .int (nI ((a + 1) + 1)), .ref sb])), (dl, .inl (cC, 160, .inl f))]) (fz := fz) (wc := [(pr, .inr (7, [.ref x])), (x, .inr (1, [.ref dl, .int (nI L.length), .int (nI ((a + 1) + 1)), .ref sb])), (dl, .inl (cC, 160, .inl f))]) hP [0, 1, 2] rfl
          have hD9 := zz_pickD (pre := [(pr, .inr (7, [.ref x])), (x, .inr (1, [.ref dl, .int (nI L.length), .int (nI ((a + 1) + 1)), .ref sb])), (dl, .inl (cC, 160, .inl f))]) (fz := fz) (wc := [(pr, .inr (7, [.ref x])), (x, .inr (1, [.ref dl, .int (nI L.length), .int (nI ((a + 1) + 1)), .ref sb])), (dl, .inl (cC, 160, .inl f))]) hD [0, 1, 2] (by decide) rfl
          have hK9 := hK.sub (tys' := [(cC, .char)]) [0] rfl
          refine W.widen (k := 0) (n := 0) (Nat.le_of_ble_eq_true rfl) (Nat.le_of_ble_eq_true rfl) ?_
          exact W.iret (v := 1) hx hb hr (fun t ht hW => ⟨⟨1, ((a + 1) + 1), rfl, ⟨by omega, by omega, Or.inr ⟨1, by unfold sgP; rw [hda, hda1, if_neg gg25, if_neg gg32, if_pos gg39, if_pos gg46, drop_2], rfl, by decide⟩⟩, ⟨by rw [ht]; exact hP9, va_K.moved hW.alike hK9, hD9⟩⟩, hS.F ht⟩) hS.2.2 d_PR_sign_90
        · rw [hab48] at hP hD
          replace hP : va_P (dC, dI) vwCl ([(pr, .inr (7, [.ref x])), (x, .inr (1, [.ref dl, .int (nI L.length), .int (nI (a + 1)), .ref sb])), (dl, .inl (cC, 160, .inl f))] ++ fz) H := hP
          replace hD : va_D A ([(pr, .inr (7, [.ref x])), (x, .inr (1, [.ref dl, .int (nI L.length), .int (nI (a + 1)), .ref sb])), (dl, .inl (cC, 160, .inl f))] ++ fz) := hD
          refine lv_if_eq (tgt := 89) hx hb d_PR_sign_82 rfl (fun _ => ?_) (fun h9 => absurd (rfl) h9)
          refine lv_iconst (v := (-1)) hx hb d_PR_sign_89 (by decide) ?_
          have hP9 := zz_pickP (pre := [(pr, .inr (7, [.ref x])), (x, .inr (1, [.ref dl, .int (nI L.length), .int (nI (a + 1)), .ref sb])), (dl, .inl (cC, 160, .inl f))]) (fz := fz) (wc := [(pr, .inr (7, [.ref x])), (x, .inr (1, [.ref dl, .int (nI L.length), .int (nI (a + 1)), .ref sb])), (dl, .inl (cC, 160, .inl f))]) hP [0, 1, 2] rfl
          have hD9 := zz_pickD (pre := [(pr, .inr (7, [.ref x])), (x, .inr (1, [.ref dl, .int (nI L.length), .int (nI (a + 1)), .ref sb])), (dl, .inl (cC, 160, .inl f))]) (fz := fz) (wc := [(pr, .inr (7, [.ref x])), (x, .inr (1, [.ref dl, .int (nI L.length), .int (nI (a + 1)), .ref sb])), (dl, .inl (cC, 160, .inl f))]) hD [0, 1, 2] (by decide) rfl
          have hK9 := hK.sub (tys' := [(cC, .char)]) [0] rfl
          refine W.widen (k := 0) (n := 0) (Nat.le_of_ble_eq_true rfl) (Nat.le_of_ble_eq_true rfl) ?_
          exact W.iret (v := (-1)) hx hb hr (fun t ht hW => ⟨⟨(-1), (a + 1), rfl, ⟨by omega, by omega, Or.inl ⟨by unfold sgP; rw [hda, hda1, if_neg gg25, if_neg gg32, if_pos gg39, if_neg gg46], rfl⟩⟩, ⟨by rw [ht]; exact hP9, va_K.moved hW.alike hK9, hD9⟩⟩, hS.F ht⟩) hS.2.2 d_PR_sign_90
      · rw [hab41] at hP hD
        replace hP : va_P (dC, dI) vwCl ([(pr, .inr (7, [.ref x])), (x, .inr (1, [.ref dl, .int (nI L.length), .int (nI a), .ref sb])), (dl, .inl (cC, 160, .inl f))] ++ fz) H := hP
        replace hD : va_D A ([(pr, .inr (7, [.ref x])), (x, .inr (1, [.ref dl, .int (nI L.length), .int (nI a), .ref sb])), (dl, .inl (cC, 160, .inl f))] ++ fz) := hD
        refine lv_if_eq (tgt := 91) hx hb d_PR_sign_70 rfl (fun _ => ?_) (fun h9 => absurd (rfl) h9)
        refine lv_aload_n hx hb d_PR_sign_91 rfl (lv_at hl 0 rfl) ?_
        refine va_get (D := (dC, dI)) (ci := 7) (v := .ref x) (C := R_PR) (T := T_PR) (N := 1) hx hb htb in_PR hown hK hP 0 rfl rfl 0 (by decide) (htb _ m_852) (fun _ h9 => h9) rfl d_PR_sign_92 ?_
        refine lv_bipush (v := 33) hx hb d_PR_sign_95 (by decide) ?_
        have hPc := hP.sub (ws' := [(x, .inr (1, [.ref dl, .int (nI L.length), .int (nI a), .ref sb])), (dl, .inl (cC, 160, .inl f))]) [1, 2] rfl
        have hDc := hD.sub (ws' := [(x, .inr (1, [.ref dl, .int (nI L.length), .int (nI a), .ref sb])), (dl, .inl (cC, 160, .inl f))]) [1, 2] (by decide) rfl
        have hFc := va_free (wc := [(x, .inr (1, [.ref dl, .int (nI L.length), .int (nI a), .ref sb])), (dl, .inl (cC, 160, .inl f))]) hD hS hA [1, 2] rfl
        have hKc := hK.sub (tys' := [(cC, .char)]) [0] rfl
        refine va_calli (va_runV (As := [.int (nI 33)]) (rest := []) ⟨hx, hb, hml, hown, htb⟩ (k_CU_took l dC dI _ x dl sb cC f L a 33 hL (by omega) (by decide) (by decide)) (cwV 1 htb (g_V (fun _ h => h) m_435 m_860 m_433 m_434 m_10) rfl rfl rfl (by decide +kernel) ⟨Nat.le_of_ble_eq_true rfl, Nat.le_of_ble_eq_true rfl⟩) ⟨fun a U g mk q => by obtain ⟨q0, q1, qP, qK, qD⟩ := q; exact ⟨q0, q1, qP, va_K.moved (u := U) (U := U.calling g mk a) (Vm.Alike.refl U.vm) qK, qD⟩, va_recv hK hP (ci := 1) rfl (q0 := 1) rfl, fun U hU hW => ⟨rfl, by rw [hU], by rw [hU]; exact hPc, va_K.moved hW.alike hKc, hDc.weaken (fun _ _ _ _ => trivial)⟩⟩ rfl rfl hl.1 rfl (lv_room (Nat.le_of_ble_eq_true rfl)) d_PR_sign_97 ⟨Nat.le_of_ble_eq_true rfl, Nat.le_of_ble_eq_true rfl⟩) hS (fun q _ h => hFc q h) hFc (fun r43 u42 t H1 locs ht hvm hw44 hB hz1 hk1 hS => ?_)
        obtain ⟨hP1, hK1, hD1⟩ := hB
        rw [ht] at hP1
        have hK1 := va_K.moved hvm.symm hK1
        replace hw44 : (r43 = 1 ∧ L.getD a 0 = 33 ∧ a < L.length ∧ u42 = a + 1) ∨ (r43 = 0 ∧ L.getD a 0 ≠ 33 ∧ u42 = a) := hw44
        obtain ⟨hP, hD⟩ := zz_joinN (pre := [(pr, .inr (7, [.ref x])), (x, .inr (1, [.ref dl, .int (nI L.length), .int (nI a), .ref sb])), (dl, .inl (cC, 160, .inl f))]) (fz := fz) (wc := [(x, .inr (1, [.ref dl, .int (nI L.length), .int (nI a), .ref sb])), (dl, .inl (cC, 160, .inl f))]) (wr := [(pr, .inr (7, [.ref x]))]) (w1 := [(x, .inr (1, [.ref dl, .int (nI L.length), .int (nI u42), .ref sb])), (dl, .inl (cC, 160, .inl f))]) hP hD [1, 2] [0] rfl rfl (by decide) (by decide) hk1 hFc hP1 hD1
        have hK := (hK.sub (tys' := []) [] rfl).app hK1
        generalize H1 = H at hP hS ⊢
        replace hP : va_P (dC, dI) vwCl ([(pr, .inr (7, [.ref x])), (x, .inr (1, [.ref dl, .int (nI L.length), .int (nI u42), .ref sb])), (dl, .inl (cC, 160, .inl f))] ++ fz) H := hP
        replace hD : va_D A ([(pr, .inr (7, [.ref x])), (x, .inr (1, [.ref dl, .int (nI L.length), .int (nI u42), .ref sb])), (dl, .inl (cC, 160, .inl f))] ++ fz) := hD
        replace hK : va_K (dC, dI) vwCl [(cC, .char)] s := hK
        clear hPc hDc hFc hKc hP1 hD1 hK1 hk1 hz1 ht hvm
        rcases hw44 with ⟨rfl, gg46, gl47, hab48⟩ | ⟨rfl, gg46, hab48⟩
        · rw [hab48] at hP hD
          replace hP : va_P (dC, dI) vwCl ([(pr, .inr (7, [.ref x])), (x, .inr (1, [.ref dl, .int (nI L.length), .int (nI (a + 1)), .ref sb])), (dl, .inl (cC, 160, .inl f))] ++ fz) H := hP
          replace hD : va_D A ([(pr, .inr (7, [.ref x])), (x, .inr (1, [.ref dl, .int (nI L.length), .int (nI (a + 1)), .ref sb])), (dl, .inl (cC, 160, .inl f))] ++ fz) := hD
          refine lv_if_eq (tgt := 121) hx hb d_PR_sign_100 rfl (fun h9 => absurd h9 (by decide)) (fun _ => ?_)
          refine lv_aload_n hx hb d_PR_sign_103 rfl (lv_at hl 0 rfl) ?_
          refine va_get (D := (dC, dI)) (ci := 7) (v := .ref x) (C := R_PR) (T := T_PR) (N := 1) hx hb htb in_PR hown hK hP 0 rfl rfl 0 (by decide) (htb _ m_852) (fun _ h9 => h9) rfl d_PR_sign_104 ?_
          refine lv_bipush (v := 61) hx hb d_PR_sign_107 (by decide) ?_
          have hPc := hP.sub (ws' := [(x, .inr (1, [.ref dl, .int (nI L.length), .int (nI (a + 1)), .ref sb])), (dl, .inl (cC, 160, .inl f))]) [1, 2] rfl
          have hDc := hD.sub (ws' := [(x, .inr (1, [.ref dl, .int (nI L.length), .int (nI (a + 1)), .ref sb])), (dl, .inl (cC, 160, .inl f))]) [1, 2] (by decide) rfl
          have hFc := va_free (wc := [(x, .inr (1, [.ref dl, .int (nI L.length), .int (nI (a + 1)), .ref sb])), (dl, .inl (cC, 160, .inl f))]) hD hS hA [1, 2] rfl
          have hKc := hK.sub (tys' := [(cC, .char)]) [0] rfl
          refine va_calli (va_runV (As := [.int (nI 61)]) (rest := []) ⟨hx, hb, hml, hown, htb⟩ (k_CU_took l dC dI _ x dl sb cC f L (a + 1) 61 hL (by omega) (by decide) (by decide)) (cwV 1 htb (g_V (fun _ h => h) m_435 m_860 m_433 m_434 m_10) rfl rfl rfl (by decide +kernel) ⟨Nat.le_of_ble_eq_true rfl, Nat.le_of_ble_eq_true rfl⟩) ⟨fun a U g mk q => by obtain ⟨q0, q1, qP, qK, qD⟩ := q; exact ⟨q0, q1, qP, va_K.moved (u := U) (U := U.calling g mk a) (Vm.Alike.refl U.vm) qK, qD⟩, va_recv hK hP (ci := 1) rfl (q0 := 1) rfl, fun U hU hW => ⟨rfl, by rw [hU], by rw [hU]; exact hPc, va_K.moved hW.alike hKc, hDc.weaken (fun _ _ _ _ => trivial)⟩⟩ rfl rfl hl.1 rfl (lv_room (Nat.le_of_ble_eq_true rfl)) d_PR_sign_109 ⟨Nat.le_of_ble_eq_true rfl, Nat.le_of_ble_eq_true rfl⟩) hS (fun q _ h => hFc q h) hFc (fun r50 u49 t H1 locs ht hvm hw51 hB hz1 hk1 hS => ?_)
          obtain ⟨hP1, hK1, hD1⟩ := hB
          rw [ht] at hP1
          have hK1 := va_K.moved hvm.symm hK1
          replace hw51 : (r50 = 1 ∧ L.getD (a + 1) 0 = 61 ∧ (a + 1) < L.length ∧ u49 = (a + 1) + 1) ∨ (r50 = 0 ∧ L.getD (a + 1) 0 ≠ 61 ∧ u49 = (a + 1)) := hw51
          obtain ⟨hP, hD⟩ := zz_joinN (pre := [(pr, .inr (7, [.ref x])), (x, .inr (1, [.ref dl, .int (nI L.length), .int (nI (a + 1)), .ref sb])), (dl, .inl (cC, 160, .inl f))]) (fz := fz) (wc := [(x, .inr (1, [.ref dl, .int (nI L.length), .int (nI (a + 1)), .ref sb])), (dl, .inl (cC, 160, .inl f))]) (wr := [(pr, .inr (7, [.ref x]))]) (w1 := [(x, .inr (1, [.ref dl, .int (nI L.length), .int (nI u49), .ref sb])), (dl, .inl (cC, 160, .inl f))]) hP hD [1, 2] [0] rfl rfl (by decide) (by decide) hk1 hFc hP1 hD1
          have hK := (hK.sub (tys' := []) [] rfl).app hK1
          generalize H1 = H at hP hS ⊢
          replace hP : va_P (dC, dI) vwCl ([(pr, .inr (7, [.ref x])), (x, .inr (1, [.ref dl, .int (nI L.length), .int (nI u49), .ref sb])), (dl, .inl (cC, 160, .inl f))] ++ fz) H := hP
          replace hD : va_D A ([(pr, .inr (7, [.ref x])), (x, .inr (1, [.ref dl, .int (nI L.length), .int (nI u49), .ref sb])), (dl, .inl (cC, 160, .inl f))] ++ fz) := hD
          replace hK : va_K (dC, dI) vwCl [(cC, .char)] s := hK
          clear hPc hDc hFc hKc hP1 hD1 hK1 hk1 hz1 ht hvm
          rcases hw51 with ⟨rfl, gg53, gl54, hab55⟩ | ⟨rfl, gg53, hab55⟩
          · rw [hab55] at hP hD
            replace hP : va_P (dC, dI) vwCl ([(pr, .inr (7, [.ref x])), (x, .inr (1, [.ref dl, .int (nI L.length), .int (nI ((a + 1) + 1)), .ref sb])), (dl, .inl (cC, 160, .inl f))] ++ fz) H := hP
            replace hD : va_D A ([(pr, .inr (7, [.ref x])), (x, .inr (1, [.ref dl, .int (nI L.length), .int (nI ((a + 1) + 1)), .ref sb])), (dl, .inl (cC, 160, .inl f))] ++ fz) := hD
            refine lv_if_eq (tgt := 119) hx hb d_PR_sign_112 rfl (fun h9 => absurd h9 (by decide)) (fun _ => ?_)
            refine lv_iconst (v := 2) hx hb d_PR_sign_115 (by decide) ?_
            refine lv_goto (tgt := 120) hx hb d_PR_sign_116 rfl ?_
            have hP9 := zz_pickP (pre := [(pr, .inr (7, [.ref x])), (x, .inr (1, [.ref dl, .int (nI L.length), .int (nI ((a + 1) + 1)), .ref sb])), (dl, .inl (cC, 160, .inl f))]) (fz := fz) (wc := [(pr, .inr (7, [.ref x])), (x, .inr (1, [.ref dl, .int (nI L.length), .int (nI ((a + 1) + 1)), .ref sb])), (dl, .inl (cC, 160, .inl f))]) hP [0, 1, 2] rfl
            have hD9 := zz_pickD (pre := [(pr, .inr (7, [.ref x])), (x, .inr (1, [.ref dl, .int (nI L.length), .int (nI ((a + 1) + 1)), .ref sb])), (dl, .inl (cC, 160, .inl f))]) (fz := fz) (wc := [(pr, .inr (7, [.ref x])), (x, .inr (1, [.ref dl, .int (nI L.length), .int (nI ((a + 1) + 1)), .ref sb])), (dl, .inl (cC, 160, .inl f))]) hD [0, 1, 2] (by decide) rfl
            have hK9 := hK.sub (tys' := [(cC, .char)]) [0] rfl
            refine W.widen (k := 0) (n := 0) (Nat.le_of_ble_eq_true rfl) (Nat.le_of_ble_eq_true rfl) ?_
            exact W.iret (v := 2) hx hb hr (fun t ht hW => ⟨⟨2, ((a + 1) + 1), rfl, ⟨by omega, by omega, Or.inr ⟨2, by unfold sgP; rw [hda, hda1, if_neg gg25, if_neg gg32, if_neg gg39, if_pos gg46, if_pos gg53, drop_2], rfl, by decide⟩⟩, ⟨by rw [ht]; exact hP9, va_K.moved hW.alike hK9, hD9⟩⟩, hS.F ht⟩) hS.2.2 d_PR_sign_120
          · rw [hab55] at hP hD
            replace hP : va_P (dC, dI) vwCl ([(pr, .inr (7, [.ref x])), (x, .inr (1, [.ref dl, .int (nI L.length), .int (nI (a + 1)), .ref sb])), (dl, .inl (cC, 160, .inl f))] ++ fz) H := hP
            replace hD : va_D A ([(pr, .inr (7, [.ref x])), (x, .inr (1, [.ref dl, .int (nI L.length), .int (nI (a + 1)), .ref sb])), (dl, .inl (cC, 160, .inl f))] ++ fz) := hD
            refine lv_if_eq (tgt := 119) hx hb d_PR_sign_112 rfl (fun _ => ?_) (fun h9 => absurd (rfl) h9)
            refine lv_iconst (v := (-1)) hx hb d_PR_sign_119 (by decide) ?_
            have hP9 := zz_pickP (pre := [(pr, .inr (7, [.ref x])), (x, .inr (1, [.ref dl, .int (nI L.length), .int (nI (a + 1)), .ref sb])), (dl, .inl (cC, 160, .inl f))]) (fz := fz) (wc := [(pr, .inr (7, [.ref x])), (x, .inr (1, [.ref dl, .int (nI L.length), .int (nI (a + 1)), .ref sb])), (dl, .inl (cC, 160, .inl f))]) hP [0, 1, 2] rfl
            have hD9 := zz_pickD (pre := [(pr, .inr (7, [.ref x])), (x, .inr (1, [.ref dl, .int (nI L.length), .int (nI (a + 1)), .ref sb])), (dl, .inl (cC, 160, .inl f))]) (fz := fz) (wc := [(pr, .inr (7, [.ref x])), (x, .inr (1, [.ref dl, .int (nI L.length), .int (nI (a + 1)), .ref sb])), (dl, .inl (cC, 160, .inl f))]) hD [0, 1, 2] (by decide) rfl
            have hK9 := hK.sub (tys' := [(cC, .char)]) [0] rfl
            refine W.widen (k := 0) (n := 0) (Nat.le_of_ble_eq_true rfl) (Nat.le_of_ble_eq_true rfl) ?_
            exact W.iret (v := (-1)) hx hb hr (fun t ht hW => ⟨⟨(-1), (a + 1), rfl, ⟨by omega, by omega, Or.inl ⟨by unfold sgP; rw [hda, hda1, if_neg gg25, if_neg gg32, if_neg gg39, if_pos gg46, if_neg gg53], rfl⟩⟩, ⟨by rw [ht]; exact hP9, va_K.moved hW.alike hK9, hD9⟩⟩, hS.F ht⟩) hS.2.2 d_PR_sign_120
        · rw [hab48] at hP hD
          replace hP : va_P (dC, dI) vwCl ([(pr, .inr (7, [.ref x])), (x, .inr (1, [.ref dl, .int (nI L.length), .int (nI a), .ref sb])), (dl, .inl (cC, 160, .inl f))] ++ fz) H := hP
          replace hD : va_D A ([(pr, .inr (7, [.ref x])), (x, .inr (1, [.ref dl, .int (nI L.length), .int (nI a), .ref sb])), (dl, .inl (cC, 160, .inl f))] ++ fz) := hD
          refine lv_if_eq (tgt := 121) hx hb d_PR_sign_100 rfl (fun _ => ?_) (fun h9 => absurd (rfl) h9)
          refine lv_iconst (v := 0) hx hb d_PR_sign_121 (by decide) ?_
          have hP9 := zz_pickP (pre := [(pr, .inr (7, [.ref x])), (x, .inr (1, [.ref dl, .int (nI L.length), .int (nI a), .ref sb])), (dl, .inl (cC, 160, .inl f))]) (fz := fz) (wc := [(pr, .inr (7, [.ref x])), (x, .inr (1, [.ref dl, .int (nI L.length), .int (nI a), .ref sb])), (dl, .inl (cC, 160, .inl f))]) hP [0, 1, 2] rfl
          have hD9 := zz_pickD (pre := [(pr, .inr (7, [.ref x])), (x, .inr (1, [.ref dl, .int (nI L.length), .int (nI a), .ref sb])), (dl, .inl (cC, 160, .inl f))]) (fz := fz) (wc := [(pr, .inr (7, [.ref x])), (x, .inr (1, [.ref dl, .int (nI L.length), .int (nI a), .ref sb])), (dl, .inl (cC, 160, .inl f))]) hD [0, 1, 2] (by decide) rfl
          have hK9 := hK.sub (tys' := [(cC, .char)]) [0] rfl
          refine W.widen (k := 0) (n := 0) (Nat.le_of_ble_eq_true rfl) (Nat.le_of_ble_eq_true rfl) ?_
          exact W.iret (v := 0) hx hb hr (fun t ht hW => ⟨⟨0, a, rfl, ⟨by omega, by omega, Or.inr ⟨0, by unfold sgP; rw [hda, if_neg gg25, if_neg gg32, if_neg gg39, if_neg gg46], rfl, by decide⟩⟩, ⟨by rw [ht]; exact hP9, va_K.moved hW.alike hK9, hD9⟩⟩, hS.F ht⟩) hS.2.2 d_PR_sign_122
