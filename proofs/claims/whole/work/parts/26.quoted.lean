set_option maxHeartbeats 1000000 in
set_option maxRecDepth 100000 in
/-- quoted() -/
theorem k_CU_quoted (l : Launch) (dC : Nat → ClassId) (dI : Nat → Nat → Nat) (sz : Nat) (x : Nat) (dl : Nat) (sb : Nat) (cC : ClassId) (f : Nat → Int32) (L : List Nat) (a : Nat) (bv : Nat) (ml : Int32) (cB : ClassId) (g : Nat → Int32) (cap : Nat) (tx : List Nat) (em : Nat) (aK : Nat → Nat) (aV : Nat → Nat) (fz : va_W) (hL : Drf L f) (ha : a < L.length) (hB : Bld tx cap g) (hm0 : L.getD a 0 = 34 ∨ L.getD a 0 = 39) : Met l y_CU_quoted ws_CU_quoted ({ frames := 6, cells := (2 + cns (L.drop (a + 1)) (qtd (L.getD a 0) (L.drop (a + 1)))), slots := (164 + 286 * cns (L.drop (a + 1)) (qtd (L.getD a 0) (L.drop (a + 1)))), locals := 151 }) (va_Pc [.ref x] (fun U => U.heap.size = sz ∧ va_P (dC, dI) vwCl ([(x, .inr (1, [.ref dl, .int (nI L.length), .int (nI a), .ref sb])), (dl, .inl (cC, 160, .inl f)), (sb, .inr (13, [.ref bv, .int 0, .int ml, .int (nI tx.length)])), (bv, .inl (cB, cap, .inl g))] ++ fz) U.heap ∧ va_K (dC, dI) vwCl [(cC, .char), (cB, .byte)] U ∧ va_D (fun _ => True) ([(x, .inr (1, [.ref dl, .int (nI L.length), .int (nI a), .ref sb])), (dl, .inl (cC, 160, .inl f)), (sb, .inr (13, [.ref bv, .int 0, .int ml, .int (nI tx.length)])), (bv, .inl (cB, cap, .inl g))] ++ fz) ∧ EX em aK aV (va_A ([(x, .inr (1, [.ref dl, .int (nI L.length), .int (nI a), .ref sb])), (dl, .inl (cC, 160, .inl f)), (sb, .inr (13, [.ref bv, .int 0, .int ml, .int (nI tx.length)])), (bv, .inl (cB, cap, .inl g))] ++ fz) sz) U U.heap)) (va_Qq (fun (r : Option Nat) (u : Nat × Int32 × List Nat × Nat × (Nat → Int32) × va_W) => Bld u.2.2.1 u.2.2.2.1 u.2.2.2.2.1 ∧ a < u.1 ∧ u.1 ≤ L.length ∧ ((r = none ∧ qtd (L.getD a 0) (L.drop (a + 1)) = none ∧ u.2.2.2.2.2 = []) ∨ ∃ y8 t8, r = some y8 ∧ qtd (L.getD a 0) (L.drop (a + 1)) = some (t8, L.drop u.1) ∧ TXz cB u.2.2.2.2.2 y8 t8)) (fun u t => ∃ (bv9 : Nat), va_P (dC, dI) vwCl ([(x, .inr (1, [.ref dl, .int (nI L.length), .int (nI u.1), .ref sb])), (dl, .inl (cC, 160, .inl f)), (sb, .inr (13, [.ref bv9, .int 0, .int u.2.1, .int (nI u.2.2.1.length)])), (bv9, .inl (cB, u.2.2.2.1, .inl u.2.2.2.2.1))] ++ (u.2.2.2.2.2 ++ fz)) t.heap ∧ va_K (dC, dI) vwCl [(cC, .char), (cB, .byte)] t ∧ va_D (va_A ([(x, .inr (1, [.ref dl, .int (nI L.length), .int (nI a), .ref sb])), (dl, .inl (cC, 160, .inl f)), (sb, .inr (13, [.ref bv, .int 0, .int ml, .int (nI tx.length)])), (bv, .inl (cB, cap, .inl g))] ++ fz) sz) ([(x, .inr (1, [.ref dl, .int (nI L.length), .int (nI u.1), .ref sb])), (dl, .inl (cC, 160, .inl f)), (sb, .inr (13, [.ref bv9, .int 0, .int u.2.1, .int (nI u.2.2.1.length)])), (bv9, .inl (cB, u.2.2.2.1, .inl u.2.2.2.2.1))] ++ (u.2.2.2.2.2 ++ fz))) (va_A ([(x, .inr (1, [.ref dl, .int (nI L.length), .int (nI a), .ref sb])), (dl, .inl (cC, 160, .inl f)), (sb, .inr (13, [.ref bv, .int 0, .int ml, .int (nI tx.length)])), (bv, .inl (cB, cap, .inl g))] ++ fz) sz)) (2 + cns (L.drop (a + 1)) (qtd (L.getD a 0) (L.drop (a + 1)))) (164 + 286 * cns (L.drop (a + 1)) (qtd (L.getD a 0) (L.drop (a + 1)))) (va_A ([(x, .inr (1, [.ref dl, .int (nI L.length), .int (nI a), .ref sb])), (dl, .inl (cC, 160, .inl f)), (sb, .inr (13, [.ref bv, .int 0, .int ml, .int (nI tx.length)])), (bv, .inl (cB, cap, .inl g))] ++ fz) sz) := by
  refine Met.ofW (cc := c_CU_quoted) (maxL := 3) (ret := (some (.object "java/lang/String"))) (by decide) rfl ?_
  intro p e s m args below meth c s₁ B hml hv
  obtain ⟨hargs, hsz, hP, hK, hD0, hE⟩ := hv
  rw [show entryFrame m args 3 = entryFrame m ([.ref x]).toArray 3 by rw [hargs]]
  have hx := B.exec
  have hb := B.bytes
  have hr := B.returns
  have hts := atoms_spec (ws := ws_CU_quoted) B.pre
  have htb := fun w (h : w ∈ TBL) => hts w (List.mem_cons_of_mem _ h)
  have hown : s.vm.findClass R_CU = some m.cls := findClass_of_methodNamed B.named
  have hlocks := B.notSynchronized
  subst hsz
  have hD := hD0.self (sz := s.heap.size)
  generalize hAe : va_A ([(x, .inr (1, [.ref dl, .int (nI L.length), .int (nI a), .ref sb])), (dl, .inl (cC, 160, .inl f)), (sb, .inr (13, [.ref bv, .int 0, .int ml, .int (nI tx.length)])), (bv, .inl (cB, cap, .inl g))] ++ fz) s.heap.size = A at hD hE ⊢
  have hA : ∀ q : Nat, s.heap.size ≤ q → A q := fun q h => by rw [← hAe]; exact Or.inr h
  have hS : va_S A s.heap s.heap [] := va_S.rf
  have hP : va_P (dC, dI) vwCl ([(x, .inr (1, [.ref dl, .int (nI L.length), .int (nI a), .ref sb])), (dl, .inl (cC, 160, .inl f)), (sb, .inr (13, [.ref bv, .int 0, .int ml, .int (nI tx.length)])), (bv, .inl (cB, cap, .inl g))] ++ fz) s.heap := hP
  have hl := lv_entry ([.ref x]) (n := 3) (Nat.le_of_ble_eq_true rfl)
  rw [lg_entry_eq]
  generalize (lg_sl ([.ref x]) ++ List.replicate (3 - (lg_sl ([.ref x])).length) Slot.unset).toArray = ls at hl ⊢
  have hl : lv_has ls 3 [(0, .ref x)] := hl
  refine zz_nQ (fun Q hQ => ?_)
  have h160 : L.length ≤ 160 := hL.1
  have hmk := hL.lt a
  have hmk0 := hL.ge a ha
  have hlen : (L.drop (a + 1)).length = L.length - (a + 1) := List.length_drop
  refine lv_aload_n hx hb d_CU_quoted_0 rfl (lv_at hl 0 rfl) ?_
  have hPc : va_P (dC, dI) vwCl [(x, .inr (1, [.ref dl, .int (nI L.length), .int (nI a), .ref sb])), (dl, .inl (cC, 160, .inl f))] _ := hP.sub (ws' := [(x, .inr (1, [.ref dl, .int (nI L.length), .int (nI a), .ref sb])), (dl, .inl (cC, 160, .inl f))]) [0, 1] rfl
  have hKc := hK.sub (tys' := [(cC, .char)]) [0] rfl
  refine vp_callSi (W.runV (As := []) (rest := []) ⟨hx, hb, hml, hown, htb⟩ (q_CU_ahead l dC dI x dl sb cC f L a hL (by omega)) (cwV 0 htb (g_V (fun _ h => h) m_187 m_192 m_185 m_186 m_10) rfl rfl rfl (by decide +kernel) ⟨Nat.le_of_ble_eq_true rfl, Nat.le_of_ble_eq_true rfl⟩) ⟨fun a U g mk q => by obtain ⟨q0, qP, qK⟩ := q; exact ⟨q0, qP, va_K.moved (u := U) (U := U.calling g mk a) (Vm.Alike.refl U.vm) qK⟩, va_recv hKc hPc (ci := 1) rfl (q0 := 0) rfl, fun U hU hW => ⟨rfl, by rw [hU]; exact hPc, va_K.moved hW.alike hKc⟩⟩ rfl rfl hl.1 rfl (lv_room (Nat.le_of_ble_eq_true rfl)) d_CU_quoted_1 ⟨(by show 0 ≤ (2 + cns (L.drop (a + 1)) (qtd (L.getD a 0) (L.drop (a + 1)))); omega), (by show 0 ≤ (164 + 286 * cns (L.drop (a + 1)) (qtd (L.getD a 0) (L.drop (a + 1)))); omega)⟩) (fun r1 hw2 => ?_)
  have hw2 : r1 = nI (L.getD a 0) := hw2
  obtain rfl := hw2
  refine lv_istore_n hx hb d_CU_quoted_4 rfl hl (by decide) rfl (fun ls hl => ?_)
  have hl : lv_has ls 3 [(1, .int (nI (L.getD a 0))), (0, .ref x)] := hl
  refine lv_aload_n hx hb d_CU_quoted_5 rfl (lv_at hl 1 rfl) ?_
  refine lv_dup hx hb d_CU_quoted_6 rfl ?_
  refine va_get (D := (dC, dI)) (ci := 1) (v := .int (nI a)) (C := R_CU) (T := T_CU) (N := 4) hx hb htb in_CU hown hK hP 0 rfl rfl 2 (by decide) (htb _ m_144) (fun _ h9 => h9) rfl d_CU_quoted_7 ?_
  refine lv_iconst (v := 1) hx hb d_CU_quoted_10 (by decide) ?_
  refine lv_iadd hx hb d_CU_quoted_11 ?_
  refine W.eq (congrArg (fun z => F0 m 12 ls (.int z :: [.ref x])) (nI_1 _ : ((nI a) + 1) = nI (a + 1))) ?_
  refine va_put (D := (dC, dI)) (ci := 1) (v := .int (nI (a + 1))) (ty := .int) (C := R_CU) (T := T_CU) (N := 4) hx hb htb in_CU ty_CU ty_CU_ok nm_CU hown hK hP hD hS 0 rfl rfl 2 (by decide) (htb _ m_144) (fun _ h9 => h9) rfl (by decide +kernel) rfl rfl (Nat.le_of_ble_eq_true rfl) d_CU_quoted_12 (fun H locs hP hD hS => ?_)
  have hP : va_P (dC, dI) vwCl ([(x, .inr (1, [.ref dl, .int (nI L.length), .int (nI (a + 1)), .ref sb])), (dl, .inl (cC, 160, .inl f)), (sb, .inr (13, [.ref bv, .int 0, .int ml, .int (nI tx.length)])), (bv, .inl (cB, cap, .inl g))] ++ fz) H := hP
  have hD : va_D A ([(x, .inr (1, [.ref dl, .int (nI L.length), .int (nI (a + 1)), .ref sb])), (dl, .inl (cC, 160, .inl f)), (sb, .inr (13, [.ref bv, .int 0, .int ml, .int (nI tx.length)])), (bv, .inl (cB, cap, .inl g))] ++ fz) := hD
  refine lv_aload_n hx hb d_CU_quoted_15 rfl (lv_at hl 1 rfl) ?_
  refine va_get (D := (dC, dI)) (ci := 1) (v := .ref sb) (C := R_CU) (T := T_CU) (N := 4) hx hb htb in_CU hown hK hP 0 rfl rfl 3 (by decide) (htb _ m_145) (fun _ h9 => h9) rfl d_CU_quoted_16 ?_
  refine lv_iconst (v := 0) hx hb d_CU_quoted_19 (by decide) ?_
  have hPc := hP.sub (ws' := [(sb, .inr (13, [.ref bv, .int 0, .int ml, .int (nI tx.length)])), (bv, .inl (cB, cap, .inl g))]) [2, 3] rfl
  have hDc := hD.sub (ws' := [(sb, .inr (13, [.ref bv, .int 0, .int ml, .int (nI tx.length)])), (bv, .inl (cB, cap, .inl g))]) [2, 3] (by decide) rfl
  have hFc := va_free (wc := [(sb, .inr (13, [.ref bv, .int 0, .int ml, .int (nI tx.length)])), (bv, .inl (cB, cap, .inl g))]) hD hS hA [2, 3] rfl
  have hKc := hK.sub (tys' := [(cB, .byte)]) [1] rfl
  refine va_callv (va_runV (As := [.int 0]) (rest := []) ⟨hx, hb, hml, hown, htb⟩ (k_SB_setLength0 l dC dI _ sb bv ml tx.length cB g cap hB.2.1 hB.cap) (cwV 1 htb (g_V (fun _ h => h) m_196 m_193 m_194 m_195 m_3) rfl rfl rfl (by decide +kernel) ⟨Nat.le_of_ble_eq_true rfl, Nat.le_of_ble_eq_true rfl⟩) ⟨fun a U g mk q => by obtain ⟨q0, q1, qP, qK, qD⟩ := q; exact ⟨q0, q1, qP, va_K.moved (u := U) (U := U.calling g mk a) (Vm.Alike.refl U.vm) qK, qD⟩, va_recv hK hP (ci := 13) rfl (q0 := 2) rfl, fun U hU hW => ⟨rfl, by rw [hU], by rw [hU]; exact hPc, va_K.moved hW.alike hKc, hDc.weaken (fun _ _ _ _ => trivial)⟩⟩ rfl rfl hl.1 rfl (lv_room (Nat.le_of_ble_eq_true rfl)) d_CU_quoted_20 ⟨(by show 0 ≤ (2 + cns (L.drop (a + 1)) (qtd (L.getD a 0) (L.drop (a + 1)))); omega), (by show 0 ≤ (164 + 286 * cns (L.drop (a + 1)) (qtd (L.getD a 0) (L.drop (a + 1)))); omega)⟩) hS (fun q _ h => hFc q h) hFc (fun u3 t H1 locs ht hvm hw5 hB hz1 hk1 hS => ?_)
  obtain ⟨hP1, hK1, hD1⟩ := hB
  rw [ht] at hP1
  have hK1 := va_K.moved hvm.symm hK1
  have hw5 : True := hw5
  obtain ⟨hP, hD⟩ := zz_joinN (pre := [(x, .inr (1, [.ref dl, .int (nI L.length), .int (nI (a + 1)), .ref sb])), (dl, .inl (cC, 160, .inl f)), (sb, .inr (13, [.ref bv, .int 0, .int ml, .int (nI tx.length)])), (bv, .inl (cB, cap, .inl g))]) (fz := fz) (wc := [(sb, .inr (13, [.ref bv, .int 0, .int ml, .int (nI tx.length)])), (bv, .inl (cB, cap, .inl g))]) (wr := [(x, .inr (1, [.ref dl, .int (nI L.length), .int (nI (a + 1)), .ref sb])), (dl, .inl (cC, 160, .inl f))]) (w1 := [(sb, .inr (13, [.ref bv, .int 0, .int u3, .int 0])), (bv, .inl (cB, cap, .inl g))]) hP hD [2, 3] [0, 1] rfl rfl (by decide) (by decide) hk1 hFc hP1 hD1
  have hK := (hK.sub (tys' := [(cC, .char)]) [0] rfl).app hK1
  generalize H1 = H at hP hS ⊢
  have hP : va_P (dC, dI) vwCl ([(x, .inr (1, [.ref dl, .int (nI L.length), .int (nI (a + 1)), .ref sb])), (dl, .inl (cC, 160, .inl f)), (sb, .inr (13, [.ref bv, .int 0, .int u3, .int 0])), (bv, .inl (cB, cap, .inl g))] ++ fz) H := hP
  have hD : va_D A ([(x, .inr (1, [.ref dl, .int (nI L.length), .int (nI (a + 1)), .ref sb])), (dl, .inl (cC, 160, .inl f)), (sb, .inr (13, [.ref bv, .int 0, .int u3, .int 0])), (bv, .inl (cB, cap, .inl g))] ++ fz) := hD
  have hK : va_K (dC, dI) vwCl [(cC, .char), (cB, .byte)] s := hK
  have hloop : ∀ (k9 : Nat) (b : Nat) (bv1 : Nat) (ml1 : Int32) (cap1 : Nat) (g1 : Nat → Int32) (tx1 : List Nat) (H : Heap) (locs : List Loc) (ls : Array Slot), L.length - b = k9 → a + 1 ≤ b → b ≤ L.length → Bld tx1 cap1 g1 → qtd (L.getD a 0) (L.drop (a + 1)) = (qtd (L.getD a 0) (L.drop b)).map (fun q => (tx1 ++ q.1, q.2)) → tx1.length ≤ b - (a + 1) → lv_has ls 3 [(0, .ref x), (1, .int (nI (L.getD a 0)))] → va_P (dC, dI) vwCl ([(x, .inr (1, [.ref dl, .int (nI L.length), .int (nI b), .ref sb])), (dl, .inl (cC, 160, .inl f)), (sb, .inr (13, [.ref bv1, .int 0, .int ml1, .int (nI tx1.length)])), (bv1, .inl (cB, cap1, .inl g1))] ++ fz) H → va_D A ([(x, .inr (1, [.ref dl, .int (nI L.length), .int (nI b), .ref sb])), (dl, .inl (cC, 160, .inl f)), (sb, .inr (13, [.ref bv1, .int 0, .int ml1, .int (nI tx1.length)])), (bv1, .inl (cB, cap1, .inl g1))] ++ fz) → va_S A s.heap H locs → W p l e (headSpec ws_CU_quoted ({ frames := 6, cells := (2 + cns (L.drop (a + 1)) (qtd (L.getD a 0) (L.drop (a + 1)))), slots := (164 + 286 * cns (L.drop (a + 1)) (qtd (L.getD a 0) (L.drop (a + 1)))), locals := 151 })).room s m args below meth c H locs (b - (a + 1)) (286 * (b - (a + 1))) Q (F0 m 23 ls []) := by
    intro k9
    induction k9 using Nat.strongRecOn with
    | ind k9 ih =>
      intro b bv1 ml1 cap1 g1 tx1 H locs ls hk9 hi0 hi1 hiB hi2 hi3 hl hP hD hS
      refine lv_aload_n hx hb d_CU_quoted_23 rfl (lv_at hl 0 rfl) ?_
      refine va_get (D := (dC, dI)) (ci := 1) (v := .int (nI b)) (C := R_CU) (T := T_CU) (N := 4) hx hb htb in_CU hown hK hP 0 rfl rfl 2 (by decide) (htb _ m_144) (fun _ h9 => h9) rfl d_CU_quoted_24 ?_
      refine lv_aload_n hx hb d_CU_quoted_27 rfl (lv_at hl 0 rfl) ?_
      refine va_get (D := (dC, dI)) (ci := 1) (v := .int (nI L.length)) (C := R_CU) (T := T_CU) (N := 4) hx hb htb in_CU hown hK hP 0 rfl rfl 1 (by decide) (htb _ m_143) (fun _ h9 => h9) rfl d_CU_quoted_28 ?_
      have hcl := hL.lt b
      have hlb : (L.drop b).length = L.length - b := List.length_drop
      refine lv_icmp_ge (tgt := 119) hx hb d_CU_quoted_31 rfl (fun h1 => ?_) (fun h1 => ?_)
      · have h1 : L.length ≤ b := (nI_leI (by omega) (by omega)).mp h1
        have hno : qtd (L.getD a 0) (L.drop (a + 1)) = none := by rw [hi2, List.drop_eq_nil_of_le h1]; rfl
        have hcs : cns (L.drop (a + 1)) (qtd (L.getD a 0) (L.drop (a + 1))) = L.length - (a + 1) := by rw [hno]; exact hlen
        refine lv_null hx hb d_CU_quoted_119 ?_
        have hP9 := zz_pickP (pre := [(x, .inr (1, [.ref dl, .int (nI L.length), .int (nI b), .ref sb])), (dl, .inl (cC, 160, .inl f)), (sb, .inr (13, [.ref bv1, .int 0, .int ml1, .int (nI tx1.length)])), (bv1, .inl (cB, cap1, .inl g1))]) (fz := fz) (wc := [(x, .inr (1, [.ref dl, .int (nI L.length), .int (nI b), .ref sb])), (dl, .inl (cC, 160, .inl f)), (sb, .inr (13, [.ref bv1, .int 0, .int ml1, .int (nI tx1.length)])), (bv1, .inl (cB, cap1, .inl g1))]) hP [0, 1, 2, 3] rfl
        have hD9 := zz_pickD (pre := [(x, .inr (1, [.ref dl, .int (nI L.length), .int (nI b), .ref sb])), (dl, .inl (cC, 160, .inl f)), (sb, .inr (13, [.ref bv1, .int 0, .int ml1, .int (nI tx1.length)])), (bv1, .inl (cB, cap1, .inl g1))]) (fz := fz) (wc := [(x, .inr (1, [.ref dl, .int (nI L.length), .int (nI b), .ref sb])), (dl, .inl (cC, 160, .inl f)), (sb, .inr (13, [.ref bv1, .int 0, .int ml1, .int (nI tx1.length)])), (bv1, .inl (cB, cap1, .inl g1))]) hD [0, 1, 2, 3] (by decide) rfl
        have hK9 := hK.sub (tys' := [(cC, .char), (cB, .byte)]) [0, 1] rfl
        rw [hQ]
        refine W.widen (k := (2 + cns (L.drop (a + 1)) (qtd (L.getD a 0) (L.drop (a + 1))))) (n := (164 + 286 * cns (L.drop (a + 1)) (qtd (L.getD a 0) (L.drop (a + 1))))) ((by show (b - (a + 1)) ≤ (2 + cns (L.drop (a + 1)) (qtd (L.getD a 0) (L.drop (a + 1)))); omega)) ((by show (286 * (b - (a + 1))) ≤ (164 + 286 * cns (L.drop (a + 1)) (qtd (L.getD a 0) (L.drop (a + 1)))); omega)) ?_
        exact W.aret (v := .null) hx hb hr (Or.inl ⟨_, rfl⟩) (Or.inl rfl) (fun t ht hW => ⟨⟨none, (b, ml1, tx1, cap1, g1, []), rfl, ⟨hiB, by omega, by omega, Or.inl ⟨rfl, hno, rfl⟩⟩, ⟨bv1, by rw [ht]; exact hP9, va_K.moved hW.alike hK9, hD9⟩⟩, hS.F ht⟩) hS.2.2 d_CU_quoted_120
      · have h1 : b < L.length := Nat.not_le.mp (fun h => h1 ((nI_leI (by omega) (by omega)).mpr h))
        have hcs := cns_qtd hi2 (by omega) (by omega)
        rw [hlb, hlen] at hcs
        refine lv_aload_n hx hb d_CU_quoted_34 rfl (lv_at hl 0 rfl) ?_
        refine va_get (D := (dC, dI)) (ci := 1) (v := .ref dl) (C := R_CU) (T := T_CU) (N := 4) hx hb htb in_CU hown hK hP 0 rfl rfl 0 (by decide) (htb _ m_142) (fun _ h9 => h9) rfl d_CU_quoted_35 ?_
        refine lv_aload_n hx hb d_CU_quoted_38 rfl (lv_at hl 0 rfl) ?_
        refine va_get (D := (dC, dI)) (ci := 1) (v := .int (nI b)) (C := R_CU) (T := T_CU) (N := 4) hx hb htb in_CU hown hK hP 0 rfl rfl 2 (by decide) (htb _ m_144) (fun _ h9 => h9) rfl d_CU_quoted_39 ?_
        refine va_cald hx hb hK hP 1 0 rfl rfl (vp_in_nI (by omega) (by omega)) d_CU_quoted_42 ?_
        refine W.eq (congrArg (fun z => F0 m 43 ls (.int z :: [])) (by rw [nI_clamp (by omega)]; exact hL.2.2 _ h1 : (f (nI b).toNatClampNeg) = nI (L.getD b 0))) ?_
        refine lv_istore_n hx hb d_CU_quoted_43 rfl hl (by decide) rfl (fun ls hl => ?_)
        have hl : lv_has ls 3 [(2, .int (nI (L.getD b 0))), (0, .ref x), (1, .int (nI (L.getD a 0)))] := hl
        refine lv_aload_n hx hb d_CU_quoted_44 rfl (lv_at hl 1 rfl) ?_
        refine lv_dup hx hb d_CU_quoted_45 rfl ?_
        refine va_get (D := (dC, dI)) (ci := 1) (v := .int (nI b)) (C := R_CU) (T := T_CU) (N := 4) hx hb htb in_CU hown hK hP 0 rfl rfl 2 (by decide) (htb _ m_144) (fun _ h9 => h9) rfl d_CU_quoted_46 ?_
        refine lv_iconst (v := 1) hx hb d_CU_quoted_49 (by decide) ?_
        refine lv_iadd hx hb d_CU_quoted_50 ?_
        refine W.eq (congrArg (fun z => F0 m 51 ls (.int z :: [.ref x])) (nI_1 _ : ((nI b) + 1) = nI (b + 1))) ?_
        refine va_put (D := (dC, dI)) (ci := 1) (v := .int (nI (b + 1))) (ty := .int) (C := R_CU) (T := T_CU) (N := 4) hx hb htb in_CU ty_CU ty_CU_ok nm_CU hown hK hP hD hS 0 rfl rfl 2 (by decide) (htb _ m_144) (fun _ h9 => h9) rfl (by decide +kernel) rfl rfl (Nat.le_of_ble_eq_true rfl) d_CU_quoted_51 (fun H locs hP hD hS => ?_)
        have hP : va_P (dC, dI) vwCl ([(x, .inr (1, [.ref dl, .int (nI L.length), .int (nI (b + 1)), .ref sb])), (dl, .inl (cC, 160, .inl f)), (sb, .inr (13, [.ref bv1, .int 0, .int ml1, .int (nI tx1.length)])), (bv1, .inl (cB, cap1, .inl g1))] ++ fz) H := hP
        have hD : va_D A ([(x, .inr (1, [.ref dl, .int (nI L.length), .int (nI (b + 1)), .ref sb])), (dl, .inl (cC, 160, .inl f)), (sb, .inr (13, [.ref bv1, .int 0, .int ml1, .int (nI tx1.length)])), (bv1, .inl (cB, cap1, .inl g1))] ++ fz) := hD
        refine lv_iload_n hx hb d_CU_quoted_54 rfl (lv_at hl 0 rfl) ?_
        refine lv_iload_n hx hb d_CU_quoted_55 rfl (lv_at hl 2 rfl) ?_
        refine lv_icmp_ne (tgt := 67) hx hb d_CU_quoted_56 rfl (fun h2 => ?_) (fun h2 => ?_)
        · have h2 : ¬ L.getD b 0 = L.getD a 0 := fun h => h2 (by rw [h])
          refine lv_iload_n hx hb d_CU_quoted_67 rfl (lv_at hl 0 rfl) ?_
          refine lv_bipush (v := 92) hx hb d_CU_quoted_68 (by decide) ?_
          refine lv_icmp_ne (tgt := 107) hx hb d_CU_quoted_70 rfl (fun h3 => ?_) (fun h3 => ?_)
          · have h3 : ¬ L.getD b 0 = 92 := fun h => h3 (by rw [h]; rfl)
            refine lv_aload_n hx hb d_CU_quoted_107 rfl (lv_at hl 1 rfl) ?_
            refine va_get (D := (dC, dI)) (ci := 1) (v := .ref sb) (C := R_CU) (T := T_CU) (N := 4) hx hb htb in_CU hown hK hP 0 rfl rfl 3 (by decide) (htb _ m_145) (fun _ h9 => h9) rfl d_CU_quoted_108 ?_
            refine lv_iload_n hx hb d_CU_quoted_111 rfl (lv_at hl 0 rfl) ?_
            have hPc := hP.sub (ws' := [(sb, .inr (13, [.ref bv1, .int 0, .int ml1, .int (nI tx1.length)])), (bv1, .inl (cB, cap1, .inl g1))]) [2, 3] rfl
            have hDc := hD.sub (ws' := [(sb, .inr (13, [.ref bv1, .int 0, .int ml1, .int (nI tx1.length)])), (bv1, .inl (cB, cap1, .inl g1))]) [2, 3] (by decide) rfl
            have hFc := va_free (wc := [(sb, .inr (13, [.ref bv1, .int 0, .int ml1, .int (nI tx1.length)])), (bv1, .inl (cB, cap1, .inl g1))]) hD hS hA [2, 3] rfl
            have hKc := hK.sub (tys' := [(cB, .byte)]) [1] rfl
            refine va_callr (va_runV (As := [.int (nI (L.getD b 0))]) (rest := []) ⟨hx, hb, hml, hown, htb⟩ (k_SB_append l dC dI _ sb bv1 ml1 cB g1 cap1 tx1 (L.getD b 0) em aK aV hiB (by omega) (by omega)) (cwV 1 htb (g_V (fun _ h => h) m_337 m_334 m_335 m_336 m_3) rfl rfl rfl (by decide +kernel) ⟨Nat.le_of_ble_eq_true rfl, Nat.le_of_ble_eq_true rfl⟩) ⟨fun a U g mk q => by obtain ⟨q0, q1, qP, qK, qD, z0⟩ := q; exact ⟨q0, q1, qP, va_K.moved (u := U) (U := U.calling g mk a) (Vm.Alike.refl U.vm) qK, qD, EX.same (U := U) (U' := U.calling g mk a) rfl z0⟩, va_recv hK hP (ci := 13) rfl (q0 := 2) rfl, fun U hU hW => ⟨rfl, by rw [hU], by rw [hU]; exact hPc, va_K.moved hW.alike hKc, hDc.weaken (fun _ _ _ _ => trivial), by rw [hU]; exact EX.warm hW ((hE.kept (fun a h1 h2 => hS.2.1 a h1 h2)).narrow hFc)⟩⟩ rfl rfl hl.1 rfl (lv_room (Nat.le_of_ble_eq_true rfl)) d_CU_quoted_112 ⟨(by show ((b - (a + 1)) + 1) ≤ (2 + cns (L.drop (a + 1)) (qtd (L.getD a 0) (L.drop (a + 1)))); omega), (by show ((286 * (b - (a + 1))) + 286) ≤ (164 + 286 * cns (L.drop (a + 1)) (qtd (L.getD a 0) (L.drop (a + 1)))); omega)⟩) hS (fun q _ h => hFc q h) hFc (fun u7 ra10 t H1 locs ht hvm hw9 hB hz1 hk1 hS => ?_)
            obtain ⟨x11, hP1, hK1, hD1⟩ := hB
            rw [ht] at hP1
            have hK1 := va_K.moved hvm.symm hK1
            obtain ⟨w12, w13⟩ := u7
            have hw9 : Bld (tx1 ++ [(L.getD b 0)]) w12 w13 := hw9
            obtain ⟨hP, hD⟩ := zz_joinN (pre := [(x, .inr (1, [.ref dl, .int (nI L.length), .int (nI (b + 1)), .ref sb])), (dl, .inl (cC, 160, .inl f)), (sb, .inr (13, [.ref bv1, .int 0, .int ml1, .int (nI tx1.length)])), (bv1, .inl (cB, cap1, .inl g1))]) (fz := fz) (wc := [(sb, .inr (13, [.ref bv1, .int 0, .int ml1, .int (nI tx1.length)])), (bv1, .inl (cB, cap1, .inl g1))]) (wr := [(x, .inr (1, [.ref dl, .int (nI L.length), .int (nI (b + 1)), .ref sb])), (dl, .inl (cC, 160, .inl f))]) (w1 := [(sb, .inr (13, [.ref x11, .int 0, .int ml1, .int (nI (tx1 ++ [(L.getD b 0)]).length)])), (x11, .inl (cB, w12, .inl w13))]) hP hD [2, 3] [0, 1] rfl rfl (by decide) (by decide) hk1 hFc hP1 hD1
            have hK := (hK.sub (tys' := [(cC, .char)]) [0] rfl).app hK1
            generalize H1 = H at hP hS ⊢
            have hP : va_P (dC, dI) vwCl ([(x, .inr (1, [.ref dl, .int (nI L.length), .int (nI (b + 1)), .ref sb])), (dl, .inl (cC, 160, .inl f)), (sb, .inr (13, [.ref x11, .int 0, .int ml1, .int (nI (tx1 ++ [(L.getD b 0)]).length)])), (x11, .inl (cB, w12, .inl w13))] ++ fz) H := hP
            have hD : va_D A ([(x, .inr (1, [.ref dl, .int (nI L.length), .int (nI (b + 1)), .ref sb])), (dl, .inl (cC, 160, .inl f)), (sb, .inr (13, [.ref x11, .int 0, .int ml1, .int (nI (tx1 ++ [(L.getD b 0)]).length)])), (x11, .inl (cB, w12, .inl w13))] ++ fz) := hD
            have hK : va_K (dC, dI) vwCl [(cC, .char), (cB, .byte)] s := hK
            refine lv_pop hx hb d_CU_quoted_115 rfl ?_
            refine lv_goto (tgt := 23) hx hb d_CU_quoted_116 rfl ?_
            refine W.widen (k := ((b + 1) - (a + 1))) (n := (286 * ((b + 1) - (a + 1)))) (by omega) (by omega) ?_
            exact ih (L.length - (b + 1)) (by omega) (b + 1) x11 ml1 w12 w13 (tx1 ++ [L.getD b 0]) H locs ls rfl (by omega) (by omega) (hw9) (by rw [hi2, drop_cons h1, qtd_plain h2 h3, Option.map_map]; congr 1; funext q; simp) (by simp; omega) (lv_sub hl [1, 2] rfl) (zz_pickP (pre := [(x, .inr (1, [.ref dl, .int (nI L.length), .int (nI (b + 1)), .ref sb])), (dl, .inl (cC, 160, .inl f)), (sb, .inr (13, [.ref x11, .int 0, .int ml1, .int (nI (tx1 ++ [(L.getD b 0)]).length)])), (x11, .inl (cB, w12, .inl w13))]) (fz := fz) (wc := [(x, .inr (1, [.ref dl, .int (nI L.length), .int (nI (b + 1)), .ref sb])), (dl, .inl (cC, 160, .inl f)), (sb, .inr (13, [.ref x11, .int 0, .int ml1, .int (nI (tx1 ++ [L.getD b 0]).length)])), (x11, .inl (cB, w12, .inl w13))]) hP [0, 1, 2, 3] rfl) (zz_pickD (pre := [(x, .inr (1, [.ref dl, .int (nI L.length), .int (nI (b + 1)), .ref sb])), (dl, .inl (cC, 160, .inl f)), (sb, .inr (13, [.ref x11, .int 0, .int ml1, .int (nI (tx1 ++ [(L.getD b 0)]).length)])), (x11, .inl (cB, w12, .inl w13))]) (fz := fz) (wc := [(x, .inr (1, [.ref dl, .int (nI L.length), .int (nI (b + 1)), .ref sb])), (dl, .inl (cC, 160, .inl f)), (sb, .inr (13, [.ref x11, .int 0, .int ml1, .int (nI (tx1 ++ [L.getD b 0]).length)])), (x11, .inl (cB, w12, .inl w13))]) hD [0, 1, 2, 3] (by decide) rfl) hS
          · have h3 : L.getD b 0 = 92 := (nI_eq (by omega) (by decide)).mp h3
            refine lv_aload_n hx hb d_CU_quoted_73 rfl (lv_at hl 1 rfl) ?_
            have hPc : va_P (dC, dI) vwCl [(x, .inr (1, [.ref dl, .int (nI L.length), .int (nI (b + 1)), .ref sb])), (dl, .inl (cC, 160, .inl f))] _ := hP.sub (ws' := [(x, .inr (1, [.ref dl, .int (nI L.length), .int (nI (b + 1)), .ref sb])), (dl, .inl (cC, 160, .inl f))]) [0, 1] rfl
            have hKc := hK.sub (tys' := [(cC, .char)]) [0] rfl
            refine vp_callSi (W.runV (As := []) (rest := []) ⟨hx, hb, hml, hown, htb⟩ (q_CU_ahead l dC dI x dl sb cC f L (b + 1) hL (by omega)) (cwV 0 htb (g_V (fun _ h => h) m_187 m_192 m_185 m_186 m_10) rfl rfl rfl (by decide +kernel) ⟨Nat.le_of_ble_eq_true rfl, Nat.le_of_ble_eq_true rfl⟩) ⟨fun a U g mk q => by obtain ⟨q0, qP, qK⟩ := q; exact ⟨q0, qP, va_K.moved (u := U) (U := U.calling g mk a) (Vm.Alike.refl U.vm) qK⟩, va_recv hKc hPc (ci := 1) rfl (q0 := 0) rfl, fun U hU hW => ⟨rfl, by rw [hU]; exact hPc, va_K.moved hW.alike hKc⟩⟩ rfl rfl hl.1 rfl (lv_room (Nat.le_of_ble_eq_true rfl)) d_CU_quoted_74 ⟨(by show (b - (a + 1)) ≤ (2 + cns (L.drop (a + 1)) (qtd (L.getD a 0) (L.drop (a + 1)))); omega), (by show (286 * (b - (a + 1))) ≤ (164 + 286 * cns (L.drop (a + 1)) (qtd (L.getD a 0) (L.drop (a + 1)))); omega)⟩) (fun r7 hw8 => ?_)
            have hw8 : r7 = nI (L.getD (b + 1) 0) := hw8
            obtain rfl := hw8
            have hcl2 := hL.lt (b + 1)
            refine lv_istore_n hx hb d_CU_quoted_77 rfl hl (by decide) rfl (fun ls hl => ?_)
            have hl : lv_has ls 3 [(2, .int (nI (L.getD (b + 1) 0))), (0, .ref x), (1, .int (nI (L.getD a 0)))] := hl
            refine lv_iload_n hx hb d_CU_quoted_78 rfl (lv_at hl 0 rfl) ?_
            refine lv_iload_n hx hb d_CU_quoted_79 rfl (lv_at hl 2 rfl) ?_
            refine lv_icmp_eq (tgt := 97) hx hb d_CU_quoted_80 rfl (fun h4 => ?_) (fun h4 => ?_)
            · have h6 : L.getD (b + 1) 0 = L.getD a 0 ∨ L.getD (b + 1) 0 = 92 ∨ L.getD (b + 1) 0 = 47 := Or.inl ((nI_eq (by omega) (by omega)).mp h4)
              have h7 : b + 1 < L.length := Nat.not_le.mp (fun h => by rw [getD_end h] at h6; omega)
              refine lv_aload_n hx hb d_CU_quoted_97 rfl (lv_at hl 1 rfl) ?_
              refine lv_dup hx hb d_CU_quoted_98 rfl ?_
              refine va_get (D := (dC, dI)) (ci := 1) (v := .int (nI (b + 1))) (C := R_CU) (T := T_CU) (N := 4) hx hb htb in_CU hown hK hP 0 rfl rfl 2 (by decide) (htb _ m_144) (fun _ h9 => h9) rfl d_CU_quoted_99 ?_
              refine lv_iconst (v := 1) hx hb d_CU_quoted_102 (by decide) ?_
              refine lv_iadd hx hb d_CU_quoted_103 ?_
              refine W.eq (congrArg (fun z => F0 m 104 ls (.int z :: [.ref x])) (nI_1 _ : ((nI (b + 1)) + 1) = nI (b + 2))) ?_
              refine va_put (D := (dC, dI)) (ci := 1) (v := .int (nI (b + 2))) (ty := .int) (C := R_CU) (T := T_CU) (N := 4) hx hb htb in_CU ty_CU ty_CU_ok nm_CU hown hK hP hD hS 0 rfl rfl 2 (by decide) (htb _ m_144) (fun _ h9 => h9) rfl (by decide +kernel) rfl rfl (Nat.le_of_ble_eq_true rfl) d_CU_quoted_104 (fun H locs hP hD hS => ?_)
              have hP : va_P (dC, dI) vwCl ([(x, .inr (1, [.ref dl, .int (nI L.length), .int (nI (b + 2)), .ref sb])), (dl, .inl (cC, 160, .inl f)), (sb, .inr (13, [.ref bv1, .int 0, .int ml1, .int (nI tx1.length)])), (bv1, .inl (cB, cap1, .inl g1))] ++ fz) H := hP
              have hD : va_D A ([(x, .inr (1, [.ref dl, .int (nI L.length), .int (nI (b + 2)), .ref sb])), (dl, .inl (cC, 160, .inl f)), (sb, .inr (13, [.ref bv1, .int 0, .int ml1, .int (nI tx1.length)])), (bv1, .inl (cB, cap1, .inl g1))] ++ fz) := hD
              refine lv_aload_n hx hb d_CU_quoted_107 rfl (lv_at hl 1 rfl) ?_
              refine va_get (D := (dC, dI)) (ci := 1) (v := .ref sb) (C := R_CU) (T := T_CU) (N := 4) hx hb htb in_CU hown hK hP 0 rfl rfl 3 (by decide) (htb _ m_145) (fun _ h9 => h9) rfl d_CU_quoted_108 ?_
              refine lv_iload_n hx hb d_CU_quoted_111 rfl (lv_at hl 0 rfl) ?_
              have hPc := hP.sub (ws' := [(sb, .inr (13, [.ref bv1, .int 0, .int ml1, .int (nI tx1.length)])), (bv1, .inl (cB, cap1, .inl g1))]) [2, 3] rfl
              have hDc := hD.sub (ws' := [(sb, .inr (13, [.ref bv1, .int 0, .int ml1, .int (nI tx1.length)])), (bv1, .inl (cB, cap1, .inl g1))]) [2, 3] (by decide) rfl
              have hFc := va_free (wc := [(sb, .inr (13, [.ref bv1, .int 0, .int ml1, .int (nI tx1.length)])), (bv1, .inl (cB, cap1, .inl g1))]) hD hS hA [2, 3] rfl
              have hKc := hK.sub (tys' := [(cB, .byte)]) [1] rfl
              refine va_callr (va_runV (As := [.int (nI (L.getD (b + 1) 0))]) (rest := []) ⟨hx, hb, hml, hown, htb⟩ (k_SB_append l dC dI _ sb bv1 ml1 cB g1 cap1 tx1 (L.getD (b + 1) 0) em aK aV hiB (by omega) (by omega)) (cwV 1 htb (g_V (fun _ h => h) m_337 m_334 m_335 m_336 m_3) rfl rfl rfl (by decide +kernel) ⟨Nat.le_of_ble_eq_true rfl, Nat.le_of_ble_eq_true rfl⟩) ⟨fun a U g mk q => by obtain ⟨q0, q1, qP, qK, qD, z0⟩ := q; exact ⟨q0, q1, qP, va_K.moved (u := U) (U := U.calling g mk a) (Vm.Alike.refl U.vm) qK, qD, EX.same (U := U) (U' := U.calling g mk a) rfl z0⟩, va_recv hK hP (ci := 13) rfl (q0 := 2) rfl, fun U hU hW => ⟨rfl, by rw [hU], by rw [hU]; exact hPc, va_K.moved hW.alike hKc, hDc.weaken (fun _ _ _ _ => trivial), by rw [hU]; exact EX.warm hW ((hE.kept (fun a h1 h2 => hS.2.1 a h1 h2)).narrow hFc)⟩⟩ rfl rfl hl.1 rfl (lv_room (Nat.le_of_ble_eq_true rfl)) d_CU_quoted_112 ⟨(by show ((b - (a + 1)) + 1) ≤ (2 + cns (L.drop (a + 1)) (qtd (L.getD a 0) (L.drop (a + 1)))); omega), (by show ((286 * (b - (a + 1))) + 286) ≤ (164 + 286 * cns (L.drop (a + 1)) (qtd (L.getD a 0) (L.drop (a + 1)))); omega)⟩) hS (fun q _ h => hFc q h) hFc (fun u9 ra12 t H1 locs ht hvm hw11 hB hz1 hk1 hS => ?_)
              obtain ⟨x13, hP1, hK1, hD1⟩ := hB
              rw [ht] at hP1
              have hK1 := va_K.moved hvm.symm hK1
              obtain ⟨w14, w15⟩ := u9
              have hw11 : Bld (tx1 ++ [(L.getD (b + 1) 0)]) w14 w15 := hw11
              obtain ⟨hP, hD⟩ := zz_joinN (pre := [(x, .inr (1, [.ref dl, .int (nI L.length), .int (nI (b + 2)), .ref sb])), (dl, .inl (cC, 160, .inl f)), (sb, .inr (13, [.ref bv1, .int 0, .int ml1, .int (nI tx1.length)])), (bv1, .inl (cB, cap1, .inl g1))]) (fz := fz) (wc := [(sb, .inr (13, [.ref bv1, .int 0, .int ml1, .int (nI tx1.length)])), (bv1, .inl (cB, cap1, .inl g1))]) (wr := [(x, .inr (1, [.ref dl, .int (nI L.length), .int (nI (b + 2)), .ref sb])), (dl, .inl (cC, 160, .inl f))]) (w1 := [(sb, .inr (13, [.ref x13, .int 0, .int ml1, .int (nI (tx1 ++ [(L.getD (b + 1) 0)]).length)])), (x13, .inl (cB, w14, .inl w15))]) hP hD [2, 3] [0, 1] rfl rfl (by decide) (by decide) hk1 hFc hP1 hD1
              have hK := (hK.sub (tys' := [(cC, .char)]) [0] rfl).app hK1
              generalize H1 = H at hP hS ⊢
              have hP : va_P (dC, dI) vwCl ([(x, .inr (1, [.ref dl, .int (nI L.length), .int (nI (b + 2)), .ref sb])), (dl, .inl (cC, 160, .inl f)), (sb, .inr (13, [.ref x13, .int 0, .int ml1, .int (nI (tx1 ++ [(L.getD (b + 1) 0)]).length)])), (x13, .inl (cB, w14, .inl w15))] ++ fz) H := hP
              have hD : va_D A ([(x, .inr (1, [.ref dl, .int (nI L.length), .int (nI (b + 2)), .ref sb])), (dl, .inl (cC, 160, .inl f)), (sb, .inr (13, [.ref x13, .int 0, .int ml1, .int (nI (tx1 ++ [(L.getD (b + 1) 0)]).length)])), (x13, .inl (cB, w14, .inl w15))] ++ fz) := hD
              have hK : va_K (dC, dI) vwCl [(cC, .char), (cB, .byte)] s := hK
              refine lv_pop hx hb d_CU_quoted_115 rfl ?_
              refine lv_goto (tgt := 23) hx hb d_CU_quoted_116 rfl ?_
              refine W.widen (k := ((b + 2) - (a + 1))) (n := (286 * ((b + 2) - (a + 1)))) (by omega) (by omega) ?_
              exact ih (L.length - (b + 2)) (by omega) (b + 2) x13 ml1 w14 w15 (tx1 ++ [L.getD (b + 1) 0]) H locs ls rfl (by omega) (by omega) (hw11) (by rw [hi2, drop_cons h1, drop_cons h7, qtd_esc h2 h3 h6, Option.map_map]; congr 1; funext q; simp) (by simp; omega) (lv_sub hl [1, 2] rfl) (zz_pickP (pre := [(x, .inr (1, [.ref dl, .int (nI L.length), .int (nI (b + 2)), .ref sb])), (dl, .inl (cC, 160, .inl f)), (sb, .inr (13, [.ref x13, .int 0, .int ml1, .int (nI (tx1 ++ [(L.getD (b + 1) 0)]).length)])), (x13, .inl (cB, w14, .inl w15))]) (fz := fz) (wc := [(x, .inr (1, [.ref dl, .int (nI L.length), .int (nI (b + 2)), .ref sb])), (dl, .inl (cC, 160, .inl f)), (sb, .inr (13, [.ref x13, .int 0, .int ml1, .int (nI (tx1 ++ [L.getD (b + 1) 0]).length)])), (x13, .inl (cB, w14, .inl w15))]) hP [0, 1, 2, 3] rfl) (zz_pickD (pre := [(x, .inr (1, [.ref dl, .int (nI L.length), .int (nI (b + 2)), .ref sb])), (dl, .inl (cC, 160, .inl f)), (sb, .inr (13, [.ref x13, .int 0, .int ml1, .int (nI (tx1 ++ [(L.getD (b + 1) 0)]).length)])), (x13, .inl (cB, w14, .inl w15))]) (fz := fz) (wc := [(x, .inr (1, [.ref dl, .int (nI L.length), .int (nI (b + 2)), .ref sb])), (dl, .inl (cC, 160, .inl f)), (sb, .inr (13, [.ref x13, .int 0, .int ml1, .int (nI (tx1 ++ [L.getD (b + 1) 0]).length)])), (x13, .inl (cB, w14, .inl w15))]) hD [0, 1, 2, 3] (by decide) rfl) hS
            · have h4 : ¬ L.getD (b + 1) 0 = L.getD a 0 := fun h => h4 (by rw [h])
              refine lv_iload_n hx hb d_CU_quoted_83 rfl (lv_at hl 0 rfl) ?_
              refine lv_bipush (v := 92) hx hb d_CU_quoted_84 (by decide) ?_
              refine lv_icmp_eq (tgt := 97) hx hb d_CU_quoted_86 rfl (fun h5 => ?_) (fun h5 => ?_)
              · have h6 : L.getD (b + 1) 0 = L.getD a 0 ∨ L.getD (b + 1) 0 = 92 ∨ L.getD (b + 1) 0 = 47 := Or.inr (Or.inl ((nI_eq (by omega) (by decide)).mp h5))
                have h7 : b + 1 < L.length := Nat.not_le.mp (fun h => by rw [getD_end h] at h6; omega)
                refine lv_aload_n hx hb d_CU_quoted_97 rfl (lv_at hl 1 rfl) ?_
                refine lv_dup hx hb d_CU_quoted_98 rfl ?_
                refine va_get (D := (dC, dI)) (ci := 1) (v := .int (nI (b + 1))) (C := R_CU) (T := T_CU) (N := 4) hx hb htb in_CU hown hK hP 0 rfl rfl 2 (by decide) (htb _ m_144) (fun _ h9 => h9) rfl d_CU_quoted_99 ?_
                refine lv_iconst (v := 1) hx hb d_CU_quoted_102 (by decide) ?_
                refine lv_iadd hx hb d_CU_quoted_103 ?_
                refine W.eq (congrArg (fun z => F0 m 104 ls (.int z :: [.ref x])) (nI_1 _ : ((nI (b + 1)) + 1) = nI (b + 2))) ?_
                refine va_put (D := (dC, dI)) (ci := 1) (v := .int (nI (b + 2))) (ty := .int) (C := R_CU) (T := T_CU) (N := 4) hx hb htb in_CU ty_CU ty_CU_ok nm_CU hown hK hP hD hS 0 rfl rfl 2 (by decide) (htb _ m_144) (fun _ h9 => h9) rfl (by decide +kernel) rfl rfl (Nat.le_of_ble_eq_true rfl) d_CU_quoted_104 (fun H locs hP hD hS => ?_)
                have hP : va_P (dC, dI) vwCl ([(x, .inr (1, [.ref dl, .int (nI L.length), .int (nI (b + 2)), .ref sb])), (dl, .inl (cC, 160, .inl f)), (sb, .inr (13, [.ref bv1, .int 0, .int ml1, .int (nI tx1.length)])), (bv1, .inl (cB, cap1, .inl g1))] ++ fz) H := hP
                have hD : va_D A ([(x, .inr (1, [.ref dl, .int (nI L.length), .int (nI (b + 2)), .ref sb])), (dl, .inl (cC, 160, .inl f)), (sb, .inr (13, [.ref bv1, .int 0, .int ml1, .int (nI tx1.length)])), (bv1, .inl (cB, cap1, .inl g1))] ++ fz) := hD
                refine lv_aload_n hx hb d_CU_quoted_107 rfl (lv_at hl 1 rfl) ?_
                refine va_get (D := (dC, dI)) (ci := 1) (v := .ref sb) (C := R_CU) (T := T_CU) (N := 4) hx hb htb in_CU hown hK hP 0 rfl rfl 3 (by decide) (htb _ m_145) (fun _ h9 => h9) rfl d_CU_quoted_108 ?_
                refine lv_iload_n hx hb d_CU_quoted_111 rfl (lv_at hl 0 rfl) ?_
                have hPc := hP.sub (ws' := [(sb, .inr (13, [.ref bv1, .int 0, .int ml1, .int (nI tx1.length)])), (bv1, .inl (cB, cap1, .inl g1))]) [2, 3] rfl
                have hDc := hD.sub (ws' := [(sb, .inr (13, [.ref bv1, .int 0, .int ml1, .int (nI tx1.length)])), (bv1, .inl (cB, cap1, .inl g1))]) [2, 3] (by decide) rfl
                have hFc := va_free (wc := [(sb, .inr (13, [.ref bv1, .int 0, .int ml1, .int (nI tx1.length)])), (bv1, .inl (cB, cap1, .inl g1))]) hD hS hA [2, 3] rfl
                have hKc := hK.sub (tys' := [(cB, .byte)]) [1] rfl
                refine va_callr (va_runV (As := [.int (nI (L.getD (b + 1) 0))]) (rest := []) ⟨hx, hb, hml, hown, htb⟩ (k_SB_append l dC dI _ sb bv1 ml1 cB g1 cap1 tx1 (L.getD (b + 1) 0) em aK aV hiB (by omega) (by omega)) (cwV 1 htb (g_V (fun _ h => h) m_337 m_334 m_335 m_336 m_3) rfl rfl rfl (by decide +kernel) ⟨Nat.le_of_ble_eq_true rfl, Nat.le_of_ble_eq_true rfl⟩) ⟨fun a U g mk q => by obtain ⟨q0, q1, qP, qK, qD, z0⟩ := q; exact ⟨q0, q1, qP, va_K.moved (u := U) (U := U.calling g mk a) (Vm.Alike.refl U.vm) qK, qD, EX.same (U := U) (U' := U.calling g mk a) rfl z0⟩, va_recv hK hP (ci := 13) rfl (q0 := 2) rfl, fun U hU hW => ⟨rfl, by rw [hU], by rw [hU]; exact hPc, va_K.moved hW.alike hKc, hDc.weaken (fun _ _ _ _ => trivial), by rw [hU]; exact EX.warm hW ((hE.kept (fun a h1 h2 => hS.2.1 a h1 h2)).narrow hFc)⟩⟩ rfl rfl hl.1 rfl (lv_room (Nat.le_of_ble_eq_true rfl)) d_CU_quoted_112 ⟨(by show ((b - (a + 1)) + 1) ≤ (2 + cns (L.drop (a + 1)) (qtd (L.getD a 0) (L.drop (a + 1)))); omega), (by show ((286 * (b - (a + 1))) + 286) ≤ (164 + 286 * cns (L.drop (a + 1)) (qtd (L.getD a 0) (L.drop (a + 1)))); omega)⟩) hS (fun q _ h => hFc q h) hFc (fun u9 ra12 t H1 locs ht hvm hw11 hB hz1 hk1 hS => ?_)
                obtain ⟨x13, hP1, hK1, hD1⟩ := hB
                rw [ht] at hP1
                have hK1 := va_K.moved hvm.symm hK1
                obtain ⟨w14, w15⟩ := u9
                have hw11 : Bld (tx1 ++ [(L.getD (b + 1) 0)]) w14 w15 := hw11
                obtain ⟨hP, hD⟩ := zz_joinN (pre := [(x, .inr (1, [.ref dl, .int (nI L.length), .int (nI (b + 2)), .ref sb])), (dl, .inl (cC, 160, .inl f)), (sb, .inr (13, [.ref bv1, .int 0, .int ml1, .int (nI tx1.length)])), (bv1, .inl (cB, cap1, .inl g1))]) (fz := fz) (wc := [(sb, .inr (13, [.ref bv1, .int 0, .int ml1, .int (nI tx1.length)])), (bv1, .inl (cB, cap1, .inl g1))]) (wr := [(x, .inr (1, [.ref dl, .int (nI L.length), .int (nI (b + 2)), .ref sb])), (dl, .inl (cC, 160, .inl f))]) (w1 := [(sb, .inr (13, [.ref x13, .int 0, .int ml1, .int (nI (tx1 ++ [(L.getD (b + 1) 0)]).length)])), (x13, .inl (cB, w14, .inl w15))]) hP hD [2, 3] [0, 1] rfl rfl (by decide) (by decide) hk1 hFc hP1 hD1
                have hK := (hK.sub (tys' := [(cC, .char)]) [0] rfl).app hK1
                generalize H1 = H at hP hS ⊢
                have hP : va_P (dC, dI) vwCl ([(x, .inr (1, [.ref dl, .int (nI L.length), .int (nI (b + 2)), .ref sb])), (dl, .inl (cC, 160, .inl f)), (sb, .inr (13, [.ref x13, .int 0, .int ml1, .int (nI (tx1 ++ [(L.getD (b + 1) 0)]).length)])), (x13, .inl (cB, w14, .inl w15))] ++ fz) H := hP
                have hD : va_D A ([(x, .inr (1, [.ref dl, .int (nI L.length), .int (nI (b + 2)), .ref sb])), (dl, .inl (cC, 160, .inl f)), (sb, .inr (13, [.ref x13, .int 0, .int ml1, .int (nI (tx1 ++ [(L.getD (b + 1) 0)]).length)])), (x13, .inl (cB, w14, .inl w15))] ++ fz) := hD
                have hK : va_K (dC, dI) vwCl [(cC, .char), (cB, .byte)] s := hK
                refine lv_pop hx hb d_CU_quoted_115 rfl ?_
                refine lv_goto (tgt := 23) hx hb d_CU_quoted_116 rfl ?_
                refine W.widen (k := ((b + 2) - (a + 1))) (n := (286 * ((b + 2) - (a + 1)))) (by omega) (by omega) ?_
                exact ih (L.length - (b + 2)) (by omega) (b + 2) x13 ml1 w14 w15 (tx1 ++ [L.getD (b + 1) 0]) H locs ls rfl (by omega) (by omega) (hw11) (by rw [hi2, drop_cons h1, drop_cons h7, qtd_esc h2 h3 h6, Option.map_map]; congr 1; funext q; simp) (by simp; omega) (lv_sub hl [1, 2] rfl) (zz_pickP (pre := [(x, .inr (1, [.ref dl, .int (nI L.length), .int (nI (b + 2)), .ref sb])), (dl, .inl (cC, 160, .inl f)), (sb, .inr (13, [.ref x13, .int 0, .int ml1, .int (nI (tx1 ++ [(L.getD (b + 1) 0)]).length)])), (x13, .inl (cB, w14, .inl w15))]) (fz := fz) (wc := [(x, .inr (1, [.ref dl, .int (nI L.length), .int (nI (b + 2)), .ref sb])), (dl, .inl (cC, 160, .inl f)), (sb, .inr (13, [.ref x13, .int 0, .int ml1, .int (nI (tx1 ++ [L.getD (b + 1) 0]).length)])), (x13, .inl (cB, w14, .inl w15))]) hP [0, 1, 2, 3] rfl) (zz_pickD (pre := [(x, .inr (1, [.ref dl, .int (nI L.length), .int (nI (b + 2)), .ref sb])), (dl, .inl (cC, 160, .inl f)), (sb, .inr (13, [.ref x13, .int 0, .int ml1, .int (nI (tx1 ++ [(L.getD (b + 1) 0)]).length)])), (x13, .inl (cB, w14, .inl w15))]) (fz := fz) (wc := [(x, .inr (1, [.ref dl, .int (nI L.length), .int (nI (b + 2)), .ref sb])), (dl, .inl (cC, 160, .inl f)), (sb, .inr (13, [.ref x13, .int 0, .int ml1, .int (nI (tx1 ++ [L.getD (b + 1) 0]).length)])), (x13, .inl (cB, w14, .inl w15))]) hD [0, 1, 2, 3] (by decide) rfl) hS
              · have h5 : ¬ L.getD (b + 1) 0 = 92 := fun h => h5 (by rw [h]; rfl)
                refine lv_iload_n hx hb d_CU_quoted_89 rfl (lv_at hl 0 rfl) ?_
                refine lv_bipush (v := 47) hx hb d_CU_quoted_90 (by decide) ?_
                refine lv_icmp_eq (tgt := 97) hx hb d_CU_quoted_92 rfl (fun h8 => ?_) (fun h8 => ?_)
                · have h6 : L.getD (b + 1) 0 = L.getD a 0 ∨ L.getD (b + 1) 0 = 92 ∨ L.getD (b + 1) 0 = 47 := Or.inr (Or.inr ((nI_eq (by omega) (by decide)).mp h8))
                  have h7 : b + 1 < L.length := Nat.not_le.mp (fun h => by rw [getD_end h] at h6; omega)
                  refine lv_aload_n hx hb d_CU_quoted_97 rfl (lv_at hl 1 rfl) ?_
                  refine lv_dup hx hb d_CU_quoted_98 rfl ?_
                  refine va_get (D := (dC, dI)) (ci := 1) (v := .int (nI (b + 1))) (C := R_CU) (T := T_CU) (N := 4) hx hb htb in_CU hown hK hP 0 rfl rfl 2 (by decide) (htb _ m_144) (fun _ h9 => h9) rfl d_CU_quoted_99 ?_
                  refine lv_iconst (v := 1) hx hb d_CU_quoted_102 (by decide) ?_
                  refine lv_iadd hx hb d_CU_quoted_103 ?_
                  refine W.eq (congrArg (fun z => F0 m 104 ls (.int z :: [.ref x])) (nI_1 _ : ((nI (b + 1)) + 1) = nI (b + 2))) ?_
                  refine va_put (D := (dC, dI)) (ci := 1) (v := .int (nI (b + 2))) (ty := .int) (C := R_CU) (T := T_CU) (N := 4) hx hb htb in_CU ty_CU ty_CU_ok nm_CU hown hK hP hD hS 0 rfl rfl 2 (by decide) (htb _ m_144) (fun _ h9 => h9) rfl (by decide +kernel) rfl rfl (Nat.le_of_ble_eq_true rfl) d_CU_quoted_104 (fun H locs hP hD hS => ?_)
                  have hP : va_P (dC, dI) vwCl ([(x, .inr (1, [.ref dl, .int (nI L.length), .int (nI (b + 2)), .ref sb])), (dl, .inl (cC, 160, .inl f)), (sb, .inr (13, [.ref bv1, .int 0, .int ml1, .int (nI tx1.length)])), (bv1, .inl (cB, cap1, .inl g1))] ++ fz) H := hP
                  have hD : va_D A ([(x, .inr (1, [.ref dl, .int (nI L.length), .int (nI (b + 2)), .ref sb])), (dl, .inl (cC, 160, .inl f)), (sb, .inr (13, [.ref bv1, .int 0, .int ml1, .int (nI tx1.length)])), (bv1, .inl (cB, cap1, .inl g1))] ++ fz) := hD
                  refine lv_aload_n hx hb d_CU_quoted_107 rfl (lv_at hl 1 rfl) ?_
                  refine va_get (D := (dC, dI)) (ci := 1) (v := .ref sb) (C := R_CU) (T := T_CU) (N := 4) hx hb htb in_CU hown hK hP 0 rfl rfl 3 (by decide) (htb _ m_145) (fun _ h9 => h9) rfl d_CU_quoted_108 ?_
                  refine lv_iload_n hx hb d_CU_quoted_111 rfl (lv_at hl 0 rfl) ?_
                  have hPc := hP.sub (ws' := [(sb, .inr (13, [.ref bv1, .int 0, .int ml1, .int (nI tx1.length)])), (bv1, .inl (cB, cap1, .inl g1))]) [2, 3] rfl
                  have hDc := hD.sub (ws' := [(sb, .inr (13, [.ref bv1, .int 0, .int ml1, .int (nI tx1.length)])), (bv1, .inl (cB, cap1, .inl g1))]) [2, 3] (by decide) rfl
                  have hFc := va_free (wc := [(sb, .inr (13, [.ref bv1, .int 0, .int ml1, .int (nI tx1.length)])), (bv1, .inl (cB, cap1, .inl g1))]) hD hS hA [2, 3] rfl
                  have hKc := hK.sub (tys' := [(cB, .byte)]) [1] rfl
                  refine va_callr (va_runV (As := [.int (nI (L.getD (b + 1) 0))]) (rest := []) ⟨hx, hb, hml, hown, htb⟩ (k_SB_append l dC dI _ sb bv1 ml1 cB g1 cap1 tx1 (L.getD (b + 1) 0) em aK aV hiB (by omega) (by omega)) (cwV 1 htb (g_V (fun _ h => h) m_337 m_334 m_335 m_336 m_3) rfl rfl rfl (by decide +kernel) ⟨Nat.le_of_ble_eq_true rfl, Nat.le_of_ble_eq_true rfl⟩) ⟨fun a U g mk q => by obtain ⟨q0, q1, qP, qK, qD, z0⟩ := q; exact ⟨q0, q1, qP, va_K.moved (u := U) (U := U.calling g mk a) (Vm.Alike.refl U.vm) qK, qD, EX.same (U := U) (U' := U.calling g mk a) rfl z0⟩, va_recv hK hP (ci := 13) rfl (q0 := 2) rfl, fun U hU hW => ⟨rfl, by rw [hU], by rw [hU]; exact hPc, va_K.moved hW.alike hKc, hDc.weaken (fun _ _ _ _ => trivial), by rw [hU]; exact EX.warm hW ((hE.kept (fun a h1 h2 => hS.2.1 a h1 h2)).narrow hFc)⟩⟩ rfl rfl hl.1 rfl (lv_room (Nat.le_of_ble_eq_true rfl)) d_CU_quoted_112 ⟨(by show ((b - (a + 1)) + 1) ≤ (2 + cns (L.drop (a + 1)) (qtd (L.getD a 0) (L.drop (a + 1)))); omega), (by show ((286 * (b - (a + 1))) + 286) ≤ (164 + 286 * cns (L.drop (a + 1)) (qtd (L.getD a 0) (L.drop (a + 1)))); omega)⟩) hS (fun q _ h => hFc q h) hFc (fun u9 ra12 t H1 locs ht hvm hw11 hB hz1 hk1 hS => ?_)
                  obtain ⟨x13, hP1, hK1, hD1⟩ := hB
                  rw [ht] at hP1
                  have hK1 := va_K.moved hvm.symm hK1
                  obtain ⟨w14, w15⟩ := u9
                  have hw11 : Bld (tx1 ++ [(L.getD (b + 1) 0)]) w14 w15 := hw11
                  obtain ⟨hP, hD⟩ := zz_joinN (pre := [(x, .inr (1, [.ref dl, .int (nI L.length), .int (nI (b + 2)), .ref sb])), (dl, .inl (cC, 160, .inl f)), (sb, .inr (13, [.ref bv1, .int 0, .int ml1, .int (nI tx1.length)])), (bv1, .inl (cB, cap1, .inl g1))]) (fz := fz) (wc := [(sb, .inr (13, [.ref bv1, .int 0, .int ml1, .int (nI tx1.length)])), (bv1, .inl (cB, cap1, .inl g1))]) (wr := [(x, .inr (1, [.ref dl, .int (nI L.length), .int (nI (b + 2)), .ref sb])), (dl, .inl (cC, 160, .inl f))]) (w1 := [(sb, .inr (13, [.ref x13, .int 0, .int ml1, .int (nI (tx1 ++ [(L.getD (b + 1) 0)]).length)])), (x13, .inl (cB, w14, .inl w15))]) hP hD [2, 3] [0, 1] rfl rfl (by decide) (by decide) hk1 hFc hP1 hD1
                  have hK := (hK.sub (tys' := [(cC, .char)]) [0] rfl).app hK1
                  generalize H1 = H at hP hS ⊢
                  have hP : va_P (dC, dI) vwCl ([(x, .inr (1, [.ref dl, .int (nI L.length), .int (nI (b + 2)), .ref sb])), (dl, .inl (cC, 160, .inl f)), (sb, .inr (13, [.ref x13, .int 0, .int ml1, .int (nI (tx1 ++ [(L.getD (b + 1) 0)]).length)])), (x13, .inl (cB, w14, .inl w15))] ++ fz) H := hP
                  have hD : va_D A ([(x, .inr (1, [.ref dl, .int (nI L.length), .int (nI (b + 2)), .ref sb])), (dl, .inl (cC, 160, .inl f)), (sb, .inr (13, [.ref x13, .int 0, .int ml1, .int (nI (tx1 ++ [(L.getD (b + 1) 0)]).length)])), (x13, .inl (cB, w14, .inl w15))] ++ fz) := hD
                  have hK : va_K (dC, dI) vwCl [(cC, .char), (cB, .byte)] s := hK
                  refine lv_pop hx hb d_CU_quoted_115 rfl ?_
                  refine lv_goto (tgt := 23) hx hb d_CU_quoted_116 rfl ?_
                  refine W.widen (k := ((b + 2) - (a + 1))) (n := (286 * ((b + 2) - (a + 1)))) (by omega) (by omega) ?_
                  exact ih (L.length - (b + 2)) (by omega) (b + 2) x13 ml1 w14 w15 (tx1 ++ [L.getD (b + 1) 0]) H locs ls rfl (by omega) (by omega) (hw11) (by rw [hi2, drop_cons h1, drop_cons h7, qtd_esc h2 h3 h6, Option.map_map]; congr 1; funext q; simp) (by simp; omega) (lv_sub hl [1, 2] rfl) (zz_pickP (pre := [(x, .inr (1, [.ref dl, .int (nI L.length), .int (nI (b + 2)), .ref sb])), (dl, .inl (cC, 160, .inl f)), (sb, .inr (13, [.ref x13, .int 0, .int ml1, .int (nI (tx1 ++ [(L.getD (b + 1) 0)]).length)])), (x13, .inl (cB, w14, .inl w15))]) (fz := fz) (wc := [(x, .inr (1, [.ref dl, .int (nI L.length), .int (nI (b + 2)), .ref sb])), (dl, .inl (cC, 160, .inl f)), (sb, .inr (13, [.ref x13, .int 0, .int ml1, .int (nI (tx1 ++ [L.getD (b + 1) 0]).length)])), (x13, .inl (cB, w14, .inl w15))]) hP [0, 1, 2, 3] rfl) (zz_pickD (pre := [(x, .inr (1, [.ref dl, .int (nI L.length), .int (nI (b + 2)), .ref sb])), (dl, .inl (cC, 160, .inl f)), (sb, .inr (13, [.ref x13, .int 0, .int ml1, .int (nI (tx1 ++ [(L.getD (b + 1) 0)]).length)])), (x13, .inl (cB, w14, .inl w15))]) (fz := fz) (wc := [(x, .inr (1, [.ref dl, .int (nI L.length), .int (nI (b + 2)), .ref sb])), (dl, .inl (cC, 160, .inl f)), (sb, .inr (13, [.ref x13, .int 0, .int ml1, .int (nI (tx1 ++ [L.getD (b + 1) 0]).length)])), (x13, .inl (cB, w14, .inl w15))]) hD [0, 1, 2, 3] (by decide) rfl) hS
                · have h8 : ¬ L.getD (b + 1) 0 = 47 := fun h => h8 (by rw [h]; rfl)
                  have hno : qtd (L.getD a 0) (L.drop (a + 1)) = none := by
                    rw [hi2, drop_cons h1]
                    by_cases h7 : b + 1 < L.length
                    · rw [drop_cons h7, qtd_bad h2 h3 (fun h => h.elim h4 (fun h => h.elim h5 h8))]; rfl
                    · rw [List.drop_eq_nil_of_le (by omega), qtd_bad1 h2 h3]; rfl
                  have hcs : cns (L.drop (a + 1)) (qtd (L.getD a 0) (L.drop (a + 1))) = L.length - (a + 1) := by rw [hno]; exact hlen
                  refine lv_null hx hb d_CU_quoted_95 ?_
                  have hP9 := zz_pickP (pre := [(x, .inr (1, [.ref dl, .int (nI L.length), .int (nI (b + 1)), .ref sb])), (dl, .inl (cC, 160, .inl f)), (sb, .inr (13, [.ref bv1, .int 0, .int ml1, .int (nI tx1.length)])), (bv1, .inl (cB, cap1, .inl g1))]) (fz := fz) (wc := [(x, .inr (1, [.ref dl, .int (nI L.length), .int (nI (b + 1)), .ref sb])), (dl, .inl (cC, 160, .inl f)), (sb, .inr (13, [.ref bv1, .int 0, .int ml1, .int (nI tx1.length)])), (bv1, .inl (cB, cap1, .inl g1))]) hP [0, 1, 2, 3] rfl
                  have hD9 := zz_pickD (pre := [(x, .inr (1, [.ref dl, .int (nI L.length), .int (nI (b + 1)), .ref sb])), (dl, .inl (cC, 160, .inl f)), (sb, .inr (13, [.ref bv1, .int 0, .int ml1, .int (nI tx1.length)])), (bv1, .inl (cB, cap1, .inl g1))]) (fz := fz) (wc := [(x, .inr (1, [.ref dl, .int (nI L.length), .int (nI (b + 1)), .ref sb])), (dl, .inl (cC, 160, .inl f)), (sb, .inr (13, [.ref bv1, .int 0, .int ml1, .int (nI tx1.length)])), (bv1, .inl (cB, cap1, .inl g1))]) hD [0, 1, 2, 3] (by decide) rfl
                  have hK9 := hK.sub (tys' := [(cC, .char), (cB, .byte)]) [0, 1] rfl
                  rw [hQ]
                  refine W.widen (k := (2 + cns (L.drop (a + 1)) (qtd (L.getD a 0) (L.drop (a + 1))))) (n := (164 + 286 * cns (L.drop (a + 1)) (qtd (L.getD a 0) (L.drop (a + 1))))) ((by show (b - (a + 1)) ≤ (2 + cns (L.drop (a + 1)) (qtd (L.getD a 0) (L.drop (a + 1)))); omega)) ((by show (286 * (b - (a + 1))) ≤ (164 + 286 * cns (L.drop (a + 1)) (qtd (L.getD a 0) (L.drop (a + 1)))); omega)) ?_
                  exact W.aret (v := .null) hx hb hr (Or.inl ⟨_, rfl⟩) (Or.inl rfl) (fun t ht hW => ⟨⟨none, (b + 1, ml1, tx1, cap1, g1, []), rfl, ⟨hiB, by omega, by omega, Or.inl ⟨rfl, hno, rfl⟩⟩, ⟨bv1, by rw [ht]; exact hP9, va_K.moved hW.alike hK9, hD9⟩⟩, hS.F ht⟩) hS.2.2 d_CU_quoted_96
        · have h2 : L.getD b 0 = L.getD a 0 := (nI_eq (by omega) (by omega)).mp h2
          refine lv_aload_n hx hb d_CU_quoted_59 rfl (lv_at hl 1 rfl) ?_
          refine va_get (D := (dC, dI)) (ci := 1) (v := .ref sb) (C := R_CU) (T := T_CU) (N := 4) hx hb htb in_CU hown hK hP 0 rfl rfl 3 (by decide) (htb _ m_145) (fun _ h9 => h9) rfl d_CU_quoted_60 ?_
          have hPc := hP.sub (ws' := [(sb, .inr (13, [.ref bv1, .int 0, .int ml1, .int (nI tx1.length)])), (bv1, .inl (cB, cap1, .inl g1))]) [2, 3] rfl
          have hDc := hD.sub (ws' := [(sb, .inr (13, [.ref bv1, .int 0, .int ml1, .int (nI tx1.length)])), (bv1, .inl (cB, cap1, .inl g1))]) [2, 3] (by decide) rfl
          have hFc := va_free (wc := [(sb, .inr (13, [.ref bv1, .int 0, .int ml1, .int (nI tx1.length)])), (bv1, .inl (cB, cap1, .inl g1))]) hD hS hA [2, 3] rfl
          have hKc := hK.sub (tys' := [(cB, .byte)]) [1] rfl
          refine va_callr (va_runV (As := []) (rest := []) ⟨hx, hb, hml, hown, htb⟩ (k_SB_toString l dC dI _ sb bv1 ml1 tx1.length cB g1 cap1 em aK aV hiB.2.2.2.1 (by omega) hiB.2.1 hiB.cap) (cwV 0 htb (g_V (fun _ h => h) m_256 m_253 m_254 m_255 m_3) rfl rfl rfl (by decide +kernel) ⟨Nat.le_of_ble_eq_true rfl, Nat.le_of_ble_eq_true rfl⟩) ⟨fun a U g mk q => by obtain ⟨q0, q1, qP, qK, qD, z0⟩ := q; exact ⟨q0, q1, qP, va_K.moved (u := U) (U := U.calling g mk a) (Vm.Alike.refl U.vm) qK, qD, EX.same (U := U) (U' := U.calling g mk a) rfl z0⟩, va_recv hK hP (ci := 13) rfl (q0 := 2) rfl, fun U hU hW => ⟨rfl, by rw [hU], by rw [hU]; exact hPc, va_K.moved hW.alike hKc, hDc.weaken (fun _ _ _ _ => trivial), by rw [hU]; exact EX.warm hW ((hE.kept (fun a h1 h2 => hS.2.1 a h1 h2)).narrow hFc)⟩⟩ rfl rfl hl.1 rfl (lv_room (Nat.le_of_ble_eq_true rfl)) d_CU_quoted_63 ⟨(by show ((b - (a + 1)) + 2) ≤ (2 + cns (L.drop (a + 1)) (qtd (L.getD a 0) (L.drop (a + 1)))); omega), (by show ((286 * (b - (a + 1))) + 164) ≤ (164 + 286 * cns (L.drop (a + 1)) (qtd (L.getD a 0) (L.drop (a + 1)))); omega)⟩) hS (fun q _ h => hFc q h) hFc (fun u7 ra10 t H1 locs ht hvm hw9 hB hz1 hk1 hS => ?_)
          obtain ⟨x11, hP1, hK1, hD1⟩ := hB
          rw [ht] at hP1
          have hK1 := va_K.moved hvm.symm hK1
          have hw9 : ∀ i, i < tx1.length → u7 i = g1 i := hw9
          obtain ⟨hP, hD⟩ := zz_joinN (pre := [(x, .inr (1, [.ref dl, .int (nI L.length), .int (nI (b + 1)), .ref sb])), (dl, .inl (cC, 160, .inl f)), (sb, .inr (13, [.ref bv1, .int 0, .int ml1, .int (nI tx1.length)])), (bv1, .inl (cB, cap1, .inl g1))]) (fz := fz) (wc := [(sb, .inr (13, [.ref bv1, .int 0, .int ml1, .int (nI tx1.length)])), (bv1, .inl (cB, cap1, .inl g1))]) (wr := [(x, .inr (1, [.ref dl, .int (nI L.length), .int (nI (b + 1)), .ref sb])), (dl, .inl (cC, 160, .inl f))]) (w1 := [(sb, .inr (13, [.ref bv1, .int 0, .int ml1, .int (nI tx1.length)])), (bv1, .inl (cB, cap1, .inl g1)), (ra10, .inr (15, [.ref x11, .int 0, .int 0, .int 0])), (x11, .inl (cB, tx1.length, .inl u7))]) hP hD [2, 3] [0, 1] rfl rfl (by decide) (by decide) hk1 hFc hP1 hD1
          have hK := (hK.sub (tys' := [(cC, .char)]) [0] rfl).app hK1
          generalize H1 = H at hP hS ⊢
          have hP : va_P (dC, dI) vwCl ([(x, .inr (1, [.ref dl, .int (nI L.length), .int (nI (b + 1)), .ref sb])), (dl, .inl (cC, 160, .inl f)), (sb, .inr (13, [.ref bv1, .int 0, .int ml1, .int (nI tx1.length)])), (bv1, .inl (cB, cap1, .inl g1)), (ra10, .inr (15, [.ref x11, .int 0, .int 0, .int 0])), (x11, .inl (cB, tx1.length, .inl u7))] ++ fz) H := hP
          have hD : va_D A ([(x, .inr (1, [.ref dl, .int (nI L.length), .int (nI (b + 1)), .ref sb])), (dl, .inl (cC, 160, .inl f)), (sb, .inr (13, [.ref bv1, .int 0, .int ml1, .int (nI tx1.length)])), (bv1, .inl (cB, cap1, .inl g1)), (ra10, .inr (15, [.ref x11, .int 0, .int 0, .int 0])), (x11, .inl (cB, tx1.length, .inl u7))] ++ fz) := hD
          have hK : va_K (dC, dI) vwCl [(cC, .char), (cB, .byte)] s := hK
          have hsm : qtd (L.getD a 0) (L.drop (a + 1)) = some (tx1, L.drop (b + 1)) := by rw [hi2, drop_cons h1, qtd_close h2]; simp
          have hP9 := zz_pickP (pre := [(x, .inr (1, [.ref dl, .int (nI L.length), .int (nI (b + 1)), .ref sb])), (dl, .inl (cC, 160, .inl f)), (sb, .inr (13, [.ref bv1, .int 0, .int ml1, .int (nI tx1.length)])), (bv1, .inl (cB, cap1, .inl g1)), (ra10, .inr (15, [.ref x11, .int 0, .int 0, .int 0])), (x11, .inl (cB, tx1.length, .inl u7))]) (fz := fz) (wc := [(x, .inr (1, [.ref dl, .int (nI L.length), .int (nI (b + 1)), .ref sb])), (dl, .inl (cC, 160, .inl f)), (sb, .inr (13, [.ref bv1, .int 0, .int ml1, .int (nI tx1.length)])), (bv1, .inl (cB, cap1, .inl g1)), (ra10, .inr (15, [.ref x11, .int 0, .int 0, .int 0])), (x11, .inl (cB, tx1.length, .inl u7))]) hP [0, 1, 2, 3, 4, 5] rfl
          have hD9 := zz_pickD (pre := [(x, .inr (1, [.ref dl, .int (nI L.length), .int (nI (b + 1)), .ref sb])), (dl, .inl (cC, 160, .inl f)), (sb, .inr (13, [.ref bv1, .int 0, .int ml1, .int (nI tx1.length)])), (bv1, .inl (cB, cap1, .inl g1)), (ra10, .inr (15, [.ref x11, .int 0, .int 0, .int 0])), (x11, .inl (cB, tx1.length, .inl u7))]) (fz := fz) (wc := [(x, .inr (1, [.ref dl, .int (nI L.length), .int (nI (b + 1)), .ref sb])), (dl, .inl (cC, 160, .inl f)), (sb, .inr (13, [.ref bv1, .int 0, .int ml1, .int (nI tx1.length)])), (bv1, .inl (cB, cap1, .inl g1)), (ra10, .inr (15, [.ref x11, .int 0, .int 0, .int 0])), (x11, .inl (cB, tx1.length, .inl u7))]) hD [0, 1, 2, 3, 4, 5] (by decide) rfl
          have hK9 := hK.sub (tys' := [(cC, .char), (cB, .byte)]) [0, 1] rfl
          rw [hQ]
          refine W.widen (k := (2 + cns (L.drop (a + 1)) (qtd (L.getD a 0) (L.drop (a + 1))))) (n := (164 + 286 * cns (L.drop (a + 1)) (qtd (L.getD a 0) (L.drop (a + 1))))) ((by show ((b - (a + 1)) + 2) ≤ (2 + cns (L.drop (a + 1)) (qtd (L.getD a 0) (L.drop (a + 1)))); omega)) ((by show ((286 * (b - (a + 1))) + 164) ≤ (164 + 286 * cns (L.drop (a + 1)) (qtd (L.getD a 0) (L.drop (a + 1)))); omega)) ?_
          exact W.aret (v := .ref ra10) hx hb hr (Or.inl ⟨_, rfl⟩) (Or.inr ⟨_, rfl⟩) (fun t ht hW => ⟨⟨(some ra10), (b + 1, ml1, tx1, cap1, g1, [(ra10, .inr (15, [.ref x11, .int 0, .int 0, .int 0])), (x11, .inl (cB, tx1.length, .inl u7))]), rfl, ⟨hiB, by omega, by omega, Or.inr ⟨_, _, rfl, hsm, x11, u7, List.mem_cons_self, List.mem_cons_of_mem _ List.mem_cons_self, fun i hi => by rw [hw9 i hi, hiB.2.2.1 i hi], hiB.2.2.2.2, by omega⟩⟩, ⟨bv1, by rw [ht]; exact hP9, va_K.moved hW.alike hK9, hD9⟩⟩, hS.F ht⟩) hS.2.2 d_CU_quoted_66
  refine W.widen (k := ((a + 1) - (a + 1))) (n := (286 * ((a + 1) - (a + 1)))) (by omega) (by omega) ?_
  exact hloop _ (a + 1) bv u3 cap g ([]) _ _ ls rfl (Nat.le_refl _) (by omega) (bld_nil hB) (by simp) (Nat.zero_le _) (lv_sub hl [1, 0] rfl) (zz_pickP (pre := [(x, .inr (1, [.ref dl, .int (nI L.length), .int (nI (a + 1)), .ref sb])), (dl, .inl (cC, 160, .inl f)), (sb, .inr (13, [.ref bv, .int 0, .int u3, .int 0])), (bv, .inl (cB, cap, .inl g))]) (fz := fz) (wc := [(x, .inr (1, [.ref dl, .int (nI L.length), .int (nI (a + 1)), .ref sb])), (dl, .inl (cC, 160, .inl f)), (sb, .inr (13, [.ref bv, .int 0, .int u3, .int (nI ([]).length)])), (bv, .inl (cB, cap, .inl g))]) hP [0, 1, 2, 3] rfl) (zz_pickD (pre := [(x, .inr (1, [.ref dl, .int (nI L.length), .int (nI (a + 1)), .ref sb])), (dl, .inl (cC, 160, .inl f)), (sb, .inr (13, [.ref bv, .int 0, .int u3, .int 0])), (bv, .inl (cB, cap, .inl g))]) (fz := fz) (wc := [(x, .inr (1, [.ref dl, .int (nI L.length), .int (nI (a + 1)), .ref sb])), (dl, .inl (cC, 160, .inl f)), (sb, .inr (13, [.ref bv, .int 0, .int u3, .int (nI ([]).length)])), (bv, .inl (cB, cap, .inl g))]) hD [0, 1, 2, 3] (by decide) rfl) hS
