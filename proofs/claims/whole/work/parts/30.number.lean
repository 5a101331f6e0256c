theorem num_text {SG tx : List Nat} {k v c : Nat} (hi3 : ¬ k = 0 → tx = SG ++ digs v) (hi5 : k = 0 → v = 0) (hi6 : k = 0 → tx = SG) (hc : 48 ≤ c ∧ c ≤ 57) (hz : k = 0 → c ≠ 48) (hi4 : ¬ k = 0 → 1 ≤ v) : tx ++ [c] = SG ++ digs (10 * v + (c - 48)) := by
  by_cases hk : k = 0
  · rw [hi6 hk, hi5 hk, show 10 * 0 + (c - 48) = c - 48 by omega, digs_one (by omega), show 48 + (c - 48) = c by omega]
  · rw [hi3 hk, digs_step (hi4 hk) (by omega), show 48 + (c - 48) = c by omega, List.append_assoc]
set_option maxHeartbeats 1000000 in
set_option maxRecDepth 100000 in
/-- number() -/
theorem k_CU_number (l : Launch) (dC : Nat → ClassId) (dI : Nat → Nat → Nat) (sz : Nat) (x : Nat) (dl : Nat) (sb : Nat) (cC : ClassId) (f : Nat → Int32) (L : List Nat) (a : Nat) (bv : Nat) (ml : Int32) (cB : ClassId) (g : Nat → Int32) (cap : Nat) (tx : List Nat) (em : Nat) (aK : Nat → Nat) (aV : Nat → Nat) (cO : ClassId) (fz : va_W) (hL : Drf L f) (ha : a ≤ L.length) (hB : Bld tx cap g) : Met l y_CU_number ws_CU_number ({ frames := 6, cells := (4 + cns (L.drop a) (num (L.drop a))), slots := (174 + 286 * cns (L.drop a) (num (L.drop a))), locals := 151 }) (va_Pc [.ref x] (fun U => U.heap.size = sz ∧ va_P (dC, dI) vwCl ([(x, .inr (1, [.ref dl, .int (nI L.length), .int (nI a), .ref sb])), (dl, .inl (cC, 160, .inl f)), (sb, .inr (13, [.ref bv, .int 0, .int ml, .int (nI tx.length)])), (bv, .inl (cB, cap, .inl g))] ++ fz) U.heap ∧ va_K (dC, dI) vwCl [(cC, .char), (cB, .byte)] U ∧ va_D (fun _ => True) ([(x, .inr (1, [.ref dl, .int (nI L.length), .int (nI a), .ref sb])), (dl, .inl (cC, 160, .inl f)), (sb, .inr (13, [.ref bv, .int 0, .int ml, .int (nI tx.length)])), (bv, .inl (cB, cap, .inl g))] ++ fz) ∧ EX em aK aV (va_A ([(x, .inr (1, [.ref dl, .int (nI L.length), .int (nI a), .ref sb])), (dl, .inl (cC, 160, .inl f)), (sb, .inr (13, [.ref bv, .int 0, .int ml, .int (nI tx.length)])), (bv, .inl (cB, cap, .inl g))] ++ fz) sz) U U.heap)) (va_Qq (fun (r : Option Nat) (u : Nat × Int32 × List Nat × Nat × (Nat → Int32) × va_W) => Bld u.2.2.1 u.2.2.2.1 u.2.2.2.2.1 ∧ a ≤ u.1 ∧ u.1 ≤ L.length ∧ ((r = none ∧ num (L.drop a) = none ∧ u.2.2.2.2.2 = []) ∨ ∃ y8 z8, r = some y8 ∧ num (L.drop a) = some (z8, L.drop u.1) ∧ VT cB cO em aK 1 u.2.2.2.2.2 y8 [] [(3, 0, z8, [], [])])) (fun u t => ∃ (bv9 : Nat), va_P (dC, dI) vwCl ([(x, .inr (1, [.ref dl, .int (nI L.length), .int (nI u.1), .ref sb])), (dl, .inl (cC, 160, .inl f)), (sb, .inr (13, [.ref bv9, .int 0, .int u.2.1, .int (nI u.2.2.1.length)])), (bv9, .inl (cB, u.2.2.2.1, .inl u.2.2.2.2.1))] ++ (u.2.2.2.2.2 ++ fz)) t.heap ∧ va_K (dC, dI) vwCl [(cC, .char), (cB, .byte)] t ∧ va_D (va_A ([(x, .inr (1, [.ref dl, .int (nI L.length), .int (nI a), .ref sb])), (dl, .inl (cC, 160, .inl f)), (sb, .inr (13, [.ref bv, .int 0, .int ml, .int (nI tx.length)])), (bv, .inl (cB, cap, .inl g))] ++ fz) sz) ([(x, .inr (1, [.ref dl, .int (nI L.length), .int (nI u.1), .ref sb])), (dl, .inl (cC, 160, .inl f)), (sb, .inr (13, [.ref bv9, .int 0, .int u.2.1, .int (nI u.2.2.1.length)])), (bv9, .inl (cB, u.2.2.2.1, .inl u.2.2.2.2.1))] ++ (u.2.2.2.2.2 ++ fz))) (va_A ([(x, .inr (1, [.ref dl, .int (nI L.length), .int (nI a), .ref sb])), (dl, .inl (cC, 160, .inl f)), (sb, .inr (13, [.ref bv, .int 0, .int ml, .int (nI tx.length)])), (bv, .inl (cB, cap, .inl g))] ++ fz) sz)) (4 + cns (L.drop a) (num (L.drop a))) (174 + 286 * cns (L.drop a) (num (L.drop a))) (va_A ([(x, .inr (1, [.ref dl, .int (nI L.length), .int (nI a), .ref sb])), (dl, .inl (cC, 160, .inl f)), (sb, .inr (13, [.ref bv, .int 0, .int ml, .int (nI tx.length)])), (bv, .inl (cB, cap, .inl g))] ++ fz) sz) := by
  refine Met.ofW (cc := c_CU_number) (maxL := 6) (ret := (some (.object "PatchStore$Value"))) (by decide) rfl ?_
  intro p e s m args below meth c s₁ B hml hv
  obtain ⟨hargs, hsz, hP, hK, hD0, hE⟩ := hv
  rw [show entryFrame m args 6 = entryFrame m ([.ref x]).toArray 6 by rw [hargs]]
  have hx := B.exec
  have hb := B.bytes
  have hr := B.returns
  have hts := atoms_spec (ws := ws_CU_number) B.pre
  have htb := fun w (h : w ∈ TBL) => hts w (List.mem_cons_of_mem _ h)
  have hown : s.vm.findClass R_CU = some m.cls := findClass_of_methodNamed B.named
  have hlocks := B.notSynchronized
  subst hsz
  have hD := hD0.self (sz := s.heap.size)
  generalize hAe : va_A ([(x, .inr (1, [.ref dl, .int (nI L.length), .int (nI a), .ref sb])), (dl, .inl (cC, 160, .inl f)), (sb, .inr (13, [.ref bv, .int 0, .int ml, .int (nI tx.length)])), (bv, .inl (cB, cap, .inl g))] ++ fz) s.heap.size = A at hD hE ⊢
  have hA : ∀ q : Nat, s.heap.size ≤ q → A q := fun q h => by rw [← hAe]; exact Or.inr h
  have hS : va_S A s.heap s.heap [] := va_S.rf
  have hP : va_P (dC, dI) vwCl ([(x, .inr (1, [.ref dl, .int (nI L.length), .int (nI a), .ref sb])), (dl, .inl (cC, 160, .inl f)), (sb, .inr (13, [.ref bv, .int 0, .int ml, .int (nI tx.length)])), (bv, .inl (cB, cap, .inl g))] ++ fz) s.heap := hP
  have hl := lv_entry ([.ref x]) (n := 6) (Nat.le_of_ble_eq_true rfl)
  rw [lg_entry_eq]
  generalize (lg_sl ([.ref x]) ++ List.replicate (6 - (lg_sl ([.ref x])).length) Slot.unset).toArray = ls at hl ⊢
  have hl : lv_has ls 6 [(0, .ref x)] := hl
  refine zz_nQ (fun Q hQ => ?_)
  have h160 : L.length ≤ 160 := hL.1
  have hlen : (L.drop a).length = L.length - a := List.length_drop
  have hha : hd0 (L.drop a) = L.getD a 0 := drop_head
  refine lv_aload_n hx hb d_CU_number_0 rfl (lv_at hl 0 rfl) ?_
  refine lv_bipush (v := 45) hx hb d_CU_number_1 (by decide) ?_
  have hPc := hP.sub (ws' := [(x, .inr (1, [.ref dl, .int (nI L.length), .int (nI a), .ref sb])), (dl, .inl (cC, 160, .inl f))]) [0, 1] rfl
  have hDc := hD.sub (ws' := [(x, .inr (1, [.ref dl, .int (nI L.length), .int (nI a), .ref sb])), (dl, .inl (cC, 160, .inl f))]) [0, 1] (by decide) rfl
  have hFc := va_free (wc := [(x, .inr (1, [.ref dl, .int (nI L.length), .int (nI a), .ref sb])), (dl, .inl (cC, 160, .inl f))]) hD hS hA [0, 1] rfl
  have hKc := hK.sub (tys' := [(cC, .char)]) [0] rfl
  refine va_calli (va_runV (As := [.int (nI 45)]) (rest := []) ⟨hx, hb, hml, hown, htb⟩ (k_CU_took l dC dI _ x dl sb cC f L a 45 hL (by omega) (by omega) (by omega)) (cwV 1 htb (g_V (fun _ h => h) m_435 m_432 m_433 m_434 m_10) rfl rfl rfl (by decide +kernel) ⟨Nat.le_of_ble_eq_true rfl, Nat.le_of_ble_eq_true rfl⟩) ⟨fun a U g mk q => by obtain ⟨q0, q1, qP, qK, qD⟩ := q; exact ⟨q0, q1, qP, va_K.moved (u := U) (U := U.calling g mk a) (Vm.Alike.refl U.vm) qK, qD⟩, va_recv hK hP (ci := 1) rfl (q0 := 0) rfl, fun U hU hW => ⟨rfl, by rw [hU], by rw [hU]; exact hPc, va_K.moved hW.alike hKc, hDc.weaken (fun _ _ _ _ => trivial)⟩⟩ rfl rfl hl.1 rfl (lv_room (Nat.le_of_ble_eq_true rfl)) d_CU_number_3 ⟨(by show 0 ≤ (4 + cns (L.drop a) (num (L.drop a))); omega), (by show 0 ≤ (174 + 286 * cns (L.drop a) (num (L.drop a))); omega)⟩) hS (fun q _ h => hFc q h) hFc (fun r2 u1 t H1 locs ht hvm hw3 hB hz1 hk1 hS => ?_)
  obtain ⟨hP1, hK1, hD1⟩ := hB
  rw [ht] at hP1
  have hK1 := va_K.moved hvm.symm hK1
  have hw3 : (r2 = 1 ∧ L.getD a 0 = 45 ∧ a < L.length ∧ u1 = a + 1) ∨ (r2 = 0 ∧ L.getD a 0 ≠ 45 ∧ u1 = a) := hw3
  obtain ⟨hP, hD⟩ := zz_joinN (pre := [(x, .inr (1, [.ref dl, .int (nI L.length), .int (nI a), .ref sb])), (dl, .inl (cC, 160, .inl f)), (sb, .inr (13, [.ref bv, .int 0, .int ml, .int (nI tx.length)])), (bv, .inl (cB, cap, .inl g))]) (fz := fz) (wc := [(x, .inr (1, [.ref dl, .int (nI L.length), .int (nI a), .ref sb])), (dl, .inl (cC, 160, .inl f))]) (wr := [(sb, .inr (13, [.ref bv, .int 0, .int ml, .int (nI tx.length)])), (bv, .inl (cB, cap, .inl g))]) (w1 := [(x, .inr (1, [.ref dl, .int (nI L.length), .int (nI u1), .ref sb])), (dl, .inl (cC, 160, .inl f))]) hP hD [0, 1] [2, 3] rfl rfl (by decide) (by decide) hk1 hFc hP1 hD1
  have hK := (hK.sub (tys' := [(cB, .byte)]) [1] rfl).app hK1
  generalize H1 = H at hP hS ⊢
  have hP : va_P (dC, dI) vwCl ([(sb, .inr (13, [.ref bv, .int 0, .int ml, .int (nI tx.length)])), (bv, .inl (cB, cap, .inl g)), (x, .inr (1, [.ref dl, .int (nI L.length), .int (nI u1), .ref sb])), (dl, .inl (cC, 160, .inl f))] ++ fz) H := hP
  have hD : va_D A ([(sb, .inr (13, [.ref bv, .int 0, .int ml, .int (nI tx.length)])), (bv, .inl (cB, cap, .inl g)), (x, .inr (1, [.ref dl, .int (nI L.length), .int (nI u1), .ref sb])), (dl, .inl (cC, 160, .inl f))] ++ fz) := hD
  have hK : va_K (dC, dI) vwCl [(cB, .byte), (cC, .char)] s := hK
  rcases hw3 with ⟨rfl, g5, g6, hab7⟩ | ⟨rfl, g5, hab7⟩
  · rw [hab7] at hP hD
    have hP : va_P (dC, dI) vwCl ([(sb, .inr (13, [.ref bv, .int 0, .int ml, .int (nI tx.length)])), (bv, .inl (cB, cap, .inl g)), (x, .inr (1, [.ref dl, .int (nI L.length), .int (nI (a + 1)), .ref sb])), (dl, .inl (cC, 160, .inl f))] ++ fz) H := hP
    have hD : va_D A ([(sb, .inr (13, [.ref bv, .int 0, .int ml, .int (nI tx.length)])), (bv, .inl (cB, cap, .inl g)), (x, .inr (1, [.ref dl, .int (nI L.length), .int (nI (a + 1)), .ref sb])), (dl, .inl (cC, 160, .inl f))] ++ fz) := hD
    have hmi := g5
    refine lv_istore_n hx hb d_CU_number_6 rfl hl (by decide) rfl (fun ls hl => ?_)
    have hl : lv_has ls 6 [(1, .int 1), (0, .ref x)] := hl
    refine lv_aload_n hx hb d_CU_number_7 rfl (lv_at hl 1 rfl) ?_
    refine lv_bipush (v := 48) hx hb d_CU_number_8 (by decide) ?_
    have hPc := hP.sub (ws' := [(x, .inr (1, [.ref dl, .int (nI L.length), .int (nI (a + 1)), .ref sb])), (dl, .inl (cC, 160, .inl f))]) [2, 3] rfl
    have hDc := hD.sub (ws' := [(x, .inr (1, [.ref dl, .int (nI L.length), .int (nI (a + 1)), .ref sb])), (dl, .inl (cC, 160, .inl f))]) [2, 3] (by decide) rfl
    have hFc := va_free (wc := [(x, .inr (1, [.ref dl, .int (nI L.length), .int (nI (a + 1)), .ref sb])), (dl, .inl (cC, 160, .inl f))]) hD hS hA [2, 3] rfl
    have hKc := hK.sub (tys' := [(cC, .char)]) [1] rfl
    refine va_calli (va_runV (As := [.int (nI 48)]) (rest := []) ⟨hx, hb, hml, hown, htb⟩ (k_CU_took l dC dI _ x dl sb cC f L (a + 1) 48 hL (by omega) (by omega) (by omega)) (cwV 1 htb (g_V (fun _ h => h) m_435 m_432 m_433 m_434 m_10) rfl rfl rfl (by decide +kernel) ⟨Nat.le_of_ble_eq_true rfl, Nat.le_of_ble_eq_true rfl⟩) ⟨fun a U g mk q => by obtain ⟨q0, q1, qP, qK, qD⟩ := q; exact ⟨q0, q1, qP, va_K.moved (u := U) (U := U.calling g mk a) (Vm.Alike.refl U.vm) qK, qD⟩, va_recv hK hP (ci := 1) rfl (q0 := 2) rfl, fun U hU hW => ⟨rfl, by rw [hU], by rw [hU]; exact hPc, va_K.moved hW.alike hKc, hDc.weaken (fun _ _ _ _ => trivial)⟩⟩ rfl rfl hl.1 rfl (lv_room (Nat.le_of_ble_eq_true rfl)) d_CU_number_10 ⟨(by show 0 ≤ (4 + cns (L.drop a) (num (L.drop a))); omega), (by show 0 ≤ (174 + 286 * cns (L.drop a) (num (L.drop a))); omega)⟩) hS (fun q _ h => hFc q h) hFc (fun r9 u8 t H1 locs ht hvm hw10 hB hz1 hk1 hS => ?_)
    obtain ⟨hP1, hK1, hD1⟩ := hB
    rw [ht] at hP1
    have hK1 := va_K.moved hvm.symm hK1
    have hw10 : (r9 = 1 ∧ L.getD (a + 1) 0 = 48 ∧ (a + 1) < L.length ∧ u8 = (a + 1) + 1) ∨ (r9 = 0 ∧ L.getD (a + 1) 0 ≠ 48 ∧ u8 = (a + 1)) := hw10
    obtain ⟨hP, hD⟩ := zz_joinN (pre := [(sb, .inr (13, [.ref bv, .int 0, .int ml, .int (nI tx.length)])), (bv, .inl (cB, cap, .inl g)), (x, .inr (1, [.ref dl, .int (nI L.length), .int (nI (a + 1)), .ref sb])), (dl, .inl (cC, 160, .inl f))]) (fz := fz) (wc := [(x, .inr (1, [.ref dl, .int (nI L.length), .int (nI (a + 1)), .ref sb])), (dl, .inl (cC, 160, .inl f))]) (wr := [(sb, .inr (13, [.ref bv, .int 0, .int ml, .int (nI tx.length)])), (bv, .inl (cB, cap, .inl g))]) (w1 := [(x, .inr (1, [.ref dl, .int (nI L.length), .int (nI u8), .ref sb])), (dl, .inl (cC, 160, .inl f))]) hP hD [2, 3] [0, 1] rfl rfl (by decide) (by decide) hk1 hFc hP1 hD1
    have hK := (hK.sub (tys' := [(cB, .byte)]) [0] rfl).app hK1
    generalize H1 = H at hP hS ⊢
    have hP : va_P (dC, dI) vwCl ([(sb, .inr (13, [.ref bv, .int 0, .int ml, .int (nI tx.length)])), (bv, .inl (cB, cap, .inl g)), (x, .inr (1, [.ref dl, .int (nI L.length), .int (nI u8), .ref sb])), (dl, .inl (cC, 160, .inl f))] ++ fz) H := hP
    have hD : va_D A ([(sb, .inr (13, [.ref bv, .int 0, .int ml, .int (nI tx.length)])), (bv, .inl (cB, cap, .inl g)), (x, .inr (1, [.ref dl, .int (nI L.length), .int (nI u8), .ref sb])), (dl, .inl (cC, 160, .inl f))] ++ fz) := hD
    have hK : va_K (dC, dI) vwCl [(cB, .byte), (cC, .char)] s := hK
    rcases hw10 with ⟨rfl, g12, g13, hab14⟩ | ⟨rfl, g12, hab14⟩
    · rw [hab14] at hP hD
      have hP : va_P (dC, dI) vwCl ([(sb, .inr (13, [.ref bv, .int 0, .int ml, .int (nI tx.length)])), (bv, .inl (cB, cap, .inl g)), (x, .inr (1, [.ref dl, .int (nI L.length), .int (nI (a + 1 + 1)), .ref sb])), (dl, .inl (cC, 160, .inl f))] ++ fz) H := hP
      have hD : va_D A ([(sb, .inr (13, [.ref bv, .int 0, .int ml, .int (nI tx.length)])), (bv, .inl (cB, cap, .inl g)), (x, .inr (1, [.ref dl, .int (nI L.length), .int (nI (a + 1 + 1)), .ref sb])), (dl, .inl (cC, 160, .inl f))] ++ fz) := hD
      have hh0 : hd0 (L.drop (a + 1)) = 48 := drop_head.trans g12
      have hsm : num (L.drop a) = some (0, L.drop (a + 1 + 1)) := by
        rw [num, if_pos (hha.trans hmi), List.drop_drop, numR, if_pos hh0, List.drop_drop]
      refine lv_if_eq (tgt := 28) hx hb d_CU_number_13 rfl (fun h9 => absurd h9 (by decide)) (fun _ => ?_)
      refine va_new (ci := 3) (fs := [.int 0, .null, .long 0, .null, .null, .int 0, .int 0]) (C := R_VA) (T := T_VA) (N := 7) hx hb htb in_VA ty_VA ty_VA_ok hown (htb _ m_436) (htb _ m_370) (htb _ m_18) hK hP hD hS hA rfl (fun j hj => by rcases (show j = 0 ∨ j = 1 ∨ j = 2 ∨ j = 3 ∨ j = 4 ∨ j = 5 ∨ j = 6 by omega) with rfl | rfl | rfl | rfl | rfl | rfl | rfl <;> rfl) ((by show 1 ≤ (4 + cns (L.drop a) (num (L.drop a))); omega)) ((by show 7 ≤ (174 + 286 * cns (L.drop a) (num (L.drop a))); omega)) d_CU_number_16 (fun z H hP hD hS => ?_)
      have hP := zz_rotP (pre := [(sb, .inr (13, [.ref bv, .int 0, .int ml, .int (nI tx.length)])), (bv, .inl (cB, cap, .inl g)), (x, .inr (1, [.ref dl, .int (nI L.length), .int (nI (a + 1 + 1)), .ref sb])), (dl, .inl (cC, 160, .inl f))]) (fz := fz) hP
      have hD := zz_rotD (pre := [(sb, .inr (13, [.ref bv, .int 0, .int ml, .int (nI tx.length)])), (bv, .inl (cB, cap, .inl g)), (x, .inr (1, [.ref dl, .int (nI L.length), .int (nI (a + 1 + 1)), .ref sb])), (dl, .inl (cC, 160, .inl f))]) (fz := fz) hD
      have hP : va_P (dC, dI) vwCl ([(sb, .inr (13, [.ref bv, .int 0, .int ml, .int (nI tx.length)])), (bv, .inl (cB, cap, .inl g)), (x, .inr (1, [.ref dl, .int (nI L.length), .int (nI (a + 1 + 1)), .ref sb])), (dl, .inl (cC, 160, .inl f)), (z, .inr (3, [.int 0, .null, .long 0, .null, .null, .int 0, .int 0]))] ++ fz) H := hP
      have hD : va_D A ([(sb, .inr (13, [.ref bv, .int 0, .int ml, .int (nI tx.length)])), (bv, .inl (cB, cap, .inl g)), (x, .inr (1, [.ref dl, .int (nI L.length), .int (nI (a + 1 + 1)), .ref sb])), (dl, .inl (cC, 160, .inl f)), (z, .inr (3, [.int 0, .null, .long 0, .null, .null, .int 0, .int 0]))] ++ fz) := hD
      refine W.widen (k := 1) (n := 7) (Nat.le_of_ble_eq_true rfl) (Nat.le_of_ble_eq_true rfl) ?_
      refine lv_dup hx hb d_CU_number_19 rfl ?_
      refine lv_iconst (v := 1) hx hb d_CU_number_20 (by decide) ?_
      refine va_ldcS hx hb hown (lr_1 hE) d_CU_number_21 ?_
      refine lv_lconst (v := 0) hx hb d_CU_number_23 (by decide) ?_
      have hPc := hP.sub (ws' := [(z, .inr (3, [.int 0, .null, .long 0, .null, .null, .int 0, .int 0]))]) [4] rfl
      have hDc := hD.sub (ws' := [(z, .inr (3, [.int 0, .null, .long 0, .null, .null, .int 0, .int 0]))]) [4] (by decide) rfl
      have hFc := va_free (wc := [(z, .inr (3, [.int 0, .null, .long 0, .null, .null, .int 0, .int 0]))]) hD hS hA [4] rfl
      have hKc := hK.sub (tys' := []) [] rfl
      refine va_callv (va_runI (As := [.int 1, .ref (aK 1), .long 0]) (rest := [.ref z]) ⟨hx, hb, hml, hown, htb⟩ (k_VA_init l dC dI _ z 1 (aK 1) 0 em aK aV ) (cwI 3 htb (g_all (fun _ h => h) m_373) rfl rfl rfl (htb _ m_18) (htb _ m_438) (htb _ m_372) rfl (by decide +kernel) ⟨Nat.le_of_ble_eq_true rfl, Nat.le_of_ble_eq_true rfl⟩) ⟨fun a U g mk q => by obtain ⟨q0, q1, qP, qK, qD, z0⟩ := q; exact ⟨q0, q1, qP, va_K.moved (u := U) (U := U.calling g mk a) (Vm.Alike.refl U.vm) qK, qD, EX.same (U := U) (U' := U.calling g mk a) rfl z0⟩, fun U hU hW => ⟨rfl, by rw [hU], by rw [hU]; exact hPc, va_K.moved hW.alike hKc, hDc.weaken (fun _ _ _ _ => trivial), by rw [hU]; exact EX.warm hW ((hE.kept (fun a h1 h2 => hS.2.1 a h1 h2)).narrow hFc)⟩⟩ rfl rfl hl.1 rfl (lv_room (Nat.le_of_ble_eq_true rfl)) d_CU_number_24 ⟨(by show 2 ≤ (4 + cns (L.drop a) (num (L.drop a))); omega), (by show 10 ≤ (174 + 286 * cns (L.drop a) (num (L.drop a))); omega)⟩) hS (fun q _ h => hFc q h) hFc (fun u15 t H1 locs ht hvm hw17 hB hz1 hk1 hS => ?_)
      obtain ⟨x19, hP1, hK1, hD1⟩ := hB
      rw [ht] at hP1
      have hK1 := va_K.moved hvm.symm hK1
      have hw17 : True := hw17
      obtain ⟨hP, hD⟩ := zz_joinN (pre := [(sb, .inr (13, [.ref bv, .int 0, .int ml, .int (nI tx.length)])), (bv, .inl (cB, cap, .inl g)), (x, .inr (1, [.ref dl, .int (nI L.length), .int (nI (a + 1 + 1)), .ref sb])), (dl, .inl (cC, 160, .inl f)), (z, .inr (3, [.int 0, .null, .long 0, .null, .null, .int 0, .int 0]))]) (fz := fz) (wc := [(z, .inr (3, [.int 0, .null, .long 0, .null, .null, .int 0, .int 0]))]) (wr := [(sb, .inr (13, [.ref bv, .int 0, .int ml, .int (nI tx.length)])), (bv, .inl (cB, cap, .inl g)), (x, .inr (1, [.ref dl, .int (nI L.length), .int (nI (a + 1 + 1)), .ref sb])), (dl, .inl (cC, 160, .inl f))]) (w1 := [(z, .inr (3, [.int 1, .ref (aK 1), .long 0, .ref (aK 0), .ref x19, .int 0, .int 1])), (x19, .inr (14, [.ref em, .int 0, .int 0]))]) hP hD [4] [0, 1, 2, 3] rfl rfl (by decide) (by decide) hk1 hFc hP1 hD1
      have hK := (hK.sub (tys' := [(cB, .byte), (cC, .char)]) [0, 1] rfl).app hK1
      generalize H1 = H at hP hS ⊢
      have hP : va_P (dC, dI) vwCl ([(sb, .inr (13, [.ref bv, .int 0, .int ml, .int (nI tx.length)])), (bv, .inl (cB, cap, .inl g)), (x, .inr (1, [.ref dl, .int (nI L.length), .int (nI (a + 1 + 1)), .ref sb])), (dl, .inl (cC, 160, .inl f)), (z, .inr (3, [.int 1, .ref (aK 1), .long 0, .ref (aK 0), .ref x19, .int 0, .int 1])), (x19, .inr (14, [.ref em, .int 0, .int 0]))] ++ fz) H := hP
      have hD : va_D A ([(sb, .inr (13, [.ref bv, .int 0, .int ml, .int (nI tx.length)])), (bv, .inl (cB, cap, .inl g)), (x, .inr (1, [.ref dl, .int (nI L.length), .int (nI (a + 1 + 1)), .ref sb])), (dl, .inl (cC, 160, .inl f)), (z, .inr (3, [.int 1, .ref (aK 1), .long 0, .ref (aK 0), .ref x19, .int 0, .int 1])), (x19, .inr (14, [.ref em, .int 0, .int 0]))] ++ fz) := hD
      have hK : va_K (dC, dI) vwCl [(cB, .byte), (cC, .char)] s := hK
      refine W.widen (k := 2) (n := 10) (Nat.le_of_ble_eq_true rfl) (Nat.le_of_ble_eq_true rfl) ?_
      have hP9 := zz_pickP (pre := [(sb, .inr (13, [.ref bv, .int 0, .int ml, .int (nI tx.length)])), (bv, .inl (cB, cap, .inl g)), (x, .inr (1, [.ref dl, .int (nI L.length), .int (nI (a + 1 + 1)), .ref sb])), (dl, .inl (cC, 160, .inl f)), (z, .inr (3, [.int 1, .ref (aK 1), .long 0, .ref (aK 0), .ref x19, .int 0, .int 1])), (x19, .inr (14, [.ref em, .int 0, .int 0]))]) (fz := fz) (wc := [(x, .inr (1, [.ref dl, .int (nI L.length), .int (nI (a + 1 + 1)), .ref sb])), (dl, .inl (cC, 160, .inl f)), (sb, .inr (13, [.ref bv, .int 0, .int ml, .int (nI tx.length)])), (bv, .inl (cB, cap, .inl g)), (z, .inr (3, [.int 1, .ref (aK 1), .long 0, .ref (aK 0), .ref x19, .int 0, .int 1])), (x19, .inr (14, [.ref em, .int 0, .int 0]))]) hP [2, 3, 0, 1, 4, 5] rfl
      have hD9 := zz_pickD (pre := [(sb, .inr (13, [.ref bv, .int 0, .int ml, .int (nI tx.length)])), (bv, .inl (cB, cap, .inl g)), (x, .inr (1, [.ref dl, .int (nI L.length), .int (nI (a + 1 + 1)), .ref sb])), (dl, .inl (cC, 160, .inl f)), (z, .inr (3, [.int 1, .ref (aK 1), .long 0, .ref (aK 0), .ref x19, .int 0, .int 1])), (x19, .inr (14, [.ref em, .int 0, .int 0]))]) (fz := fz) (wc := [(x, .inr (1, [.ref dl, .int (nI L.length), .int (nI (a + 1 + 1)), .ref sb])), (dl, .inl (cC, 160, .inl f)), (sb, .inr (13, [.ref bv, .int 0, .int ml, .int (nI tx.length)])), (bv, .inl (cB, cap, .inl g)), (z, .inr (3, [.int 1, .ref (aK 1), .long 0, .ref (aK 0), .ref x19, .int 0, .int 1])), (x19, .inr (14, [.ref em, .int 0, .int 0]))]) hD [2, 3, 0, 1, 4, 5] (by decide) rfl
      have hK9 := hK.sub (tys' := [(cC, .char), (cB, .byte)]) [1, 0] rfl
      rw [hQ]
      refine W.widen (k := (4 + cns (L.drop a) (num (L.drop a)))) (n := (174 + 286 * cns (L.drop a) (num (L.drop a)))) ((by show 2 ≤ (4 + cns (L.drop a) (num (L.drop a))); omega)) ((by show 10 ≤ (174 + 286 * cns (L.drop a) (num (L.drop a))); omega)) ?_
      exact W.aret (v := .ref z) hx hb hr (Or.inl ⟨_, rfl⟩) (Or.inr ⟨_, rfl⟩) (fun t ht hW => ⟨⟨(some z), (a + 1 + 1, ml, tx, cap, g, [(z, .inr (3, [.int 1, .ref (aK 1), .long 0, .ref (aK 0), .ref x19, .int 0, .int 1])), (x19, .inr (14, [.ref em, .int 0, .int 0]))]), rfl, ⟨hB, by omega, by omega, Or.inr ⟨_, 0, rfl, hsm, VT.scalar (a := z) (tx := aK 1) (nm := aK 0) (pa := x19) (mo := 0) (tt := LTx.getD 1 []) (nn := []) List.mem_cons_self (Or.inr ⟨1, by decide, rfl, rfl⟩) (Or.inr ⟨0, by decide, rfl, rfl⟩) (List.mem_cons_of_mem _ List.mem_cons_self) nb_hd0 (by decide)⟩⟩, ⟨bv, by rw [ht]; exact hP9, va_K.moved hW.alike hK9, hD9⟩⟩, hS.F ht⟩) hS.2.2 d_CU_number_27
    · rw [hab14] at hP hD
      have hP : va_P (dC, dI) vwCl ([(sb, .inr (13, [.ref bv, .int 0, .int ml, .int (nI tx.length)])), (bv, .inl (cB, cap, .inl g)), (x, .inr (1, [.ref dl, .int (nI L.length), .int (nI (a + 1)), .ref sb])), (dl, .inl (cC, 160, .inl f))] ++ fz) H := hP
      have hD : va_D A ([(sb, .inr (13, [.ref bv, .int 0, .int ml, .int (nI tx.length)])), (bv, .inl (cB, cap, .inl g)), (x, .inr (1, [.ref dl, .int (nI L.length), .int (nI (a + 1)), .ref sb])), (dl, .inl (cC, 160, .inl f))] ++ fz) := hD
      have hh0 : ¬ hd0 (L.drop (a + 1)) = 48 := fun h => g12 (drop_head.symm.trans h)
      have hh1 : hd0 (L.drop (a + 1)) = L.getD (a + 1) 0 := drop_head
      have hnum : num (L.drop a) = if isDig (L.getD (a + 1) 0) then numF true (numD (L.drop (a + 1)) 0) else none := by
        rw [num, if_pos (hha.trans hmi), List.drop_drop, numR, if_neg hh0, hh1]
      refine lv_if_eq (tgt := 28) hx hb d_CU_number_13 rfl (fun _ => ?_) (fun h9 => absurd (rfl) h9)
      refine lv_aload_n hx hb d_CU_number_28 rfl (lv_at hl 1 rfl) ?_
      refine va_get (D := (dC, dI)) (ci := 1) (v := .ref sb) (C := R_CU) (T := T_CU) (N := 4) hx hb htb in_CU hown hK hP 2 rfl rfl 3 (by decide) (htb _ m_145) (fun _ h9 => h9) rfl d_CU_number_29 ?_
      refine lv_iconst (v := 0) hx hb d_CU_number_32 (by decide) ?_
      have hPc := hP.sub (ws' := [(sb, .inr (13, [.ref bv, .int 0, .int ml, .int (nI tx.length)])), (bv, .inl (cB, cap, .inl g))]) [0, 1] rfl
      have hDc := hD.sub (ws' := [(sb, .inr (13, [.ref bv, .int 0, .int ml, .int (nI tx.length)])), (bv, .inl (cB, cap, .inl g))]) [0, 1] (by decide) rfl
      have hFc := va_free (wc := [(sb, .inr (13, [.ref bv, .int 0, .int ml, .int (nI tx.length)])), (bv, .inl (cB, cap, .inl g))]) hD hS hA [0, 1] rfl
      have hKc := hK.sub (tys' := [(cB, .byte)]) [0] rfl
      refine va_callv (va_runV (As := [.int 0]) (rest := []) ⟨hx, hb, hml, hown, htb⟩ (k_SB_setLength0 l dC dI _ sb bv ml tx.length cB g cap hB.2.1 hB.cap) (cwV 1 htb (g_V (fun _ h => h) m_196 m_193 m_194 m_195 m_3) rfl rfl rfl (by decide +kernel) ⟨Nat.le_of_ble_eq_true rfl, Nat.le_of_ble_eq_true rfl⟩) ⟨fun a U g mk q => by obtain ⟨q0, q1, qP, qK, qD⟩ := q; exact ⟨q0, q1, qP, va_K.moved (u := U) (U := U.calling g mk a) (Vm.Alike.refl U.vm) qK, qD⟩, va_recv hK hP (ci := 13) rfl (q0 := 0) rfl, fun U hU hW => ⟨rfl, by rw [hU], by rw [hU]; exact hPc, va_K.moved hW.alike hKc, hDc.weaken (fun _ _ _ _ => trivial)⟩⟩ rfl rfl hl.1 rfl (lv_room (Nat.le_of_ble_eq_true rfl)) d_CU_number_33 ⟨(by show 0 ≤ (4 + cns (L.drop a) (num (L.drop a))); omega), (by show 0 ≤ (174 + 286 * cns (L.drop a) (num (L.drop a))); omega)⟩) hS (fun q _ h => hFc q h) hFc (fun u15 t H1 locs ht hvm hw17 hB hz1 hk1 hS => ?_)
      obtain ⟨hP1, hK1, hD1⟩ := hB
      rw [ht] at hP1
      have hK1 := va_K.moved hvm.symm hK1
      have hw17 : True := hw17
      obtain ⟨hP, hD⟩ := zz_joinN (pre := [(sb, .inr (13, [.ref bv, .int 0, .int ml, .int (nI tx.length)])), (bv, .inl (cB, cap, .inl g)), (x, .inr (1, [.ref dl, .int (nI L.length), .int (nI (a + 1)), .ref sb])), (dl, .inl (cC, 160, .inl f))]) (fz := fz) (wc := [(sb, .inr (13, [.ref bv, .int 0, .int ml, .int (nI tx.length)])), (bv, .inl (cB, cap, .inl g))]) (wr := [(x, .inr (1, [.ref dl, .int (nI L.length), .int (nI (a + 1)), .ref sb])), (dl, .inl (cC, 160, .inl f))]) (w1 := [(sb, .inr (13, [.ref bv, .int 0, .int u15, .int 0])), (bv, .inl (cB, cap, .inl g))]) hP hD [0, 1] [2, 3] rfl rfl (by decide) (by decide) hk1 hFc hP1 hD1
      have hK := (hK.sub (tys' := [(cC, .char)]) [1] rfl).app hK1
      generalize H1 = H at hP hS ⊢
      have hP : va_P (dC, dI) vwCl ([(x, .inr (1, [.ref dl, .int (nI L.length), .int (nI (a + 1)), .ref sb])), (dl, .inl (cC, 160, .inl f)), (sb, .inr (13, [.ref bv, .int 0, .int u15, .int 0])), (bv, .inl (cB, cap, .inl g))] ++ fz) H := hP
      have hD : va_D A ([(x, .inr (1, [.ref dl, .int (nI L.length), .int (nI (a + 1)), .ref sb])), (dl, .inl (cC, 160, .inl f)), (sb, .inr (13, [.ref bv, .int 0, .int u15, .int 0])), (bv, .inl (cB, cap, .inl g))] ++ fz) := hD
      have hK : va_K (dC, dI) vwCl [(cC, .char), (cB, .byte)] s := hK
      refine lv_iload_n hx hb d_CU_number_36 rfl (lv_at hl 0 rfl) ?_
      have hcm : 1 ≤ cns (L.drop a) (num (L.drop a)) := by
        rw [hnum]
        split
        · have := cns_num (mi := true) (R0 := L.drop a) (R := L.drop (a + 1)) (v := 0) (by rw [hlen, List.length_drop]; omega)
          rw [hlen, List.length_drop] at this; omega
        · show 1 ≤ (L.drop a).length; rw [hlen]; omega
      refine lv_if_eq (tgt := 50) hx hb d_CU_number_37 rfl (fun h9 => absurd h9 (by decide)) (fun _ => ?_)
      refine lv_aload_n hx hb d_CU_number_40 rfl (lv_at hl 1 rfl) ?_
      refine va_get (D := (dC, dI)) (ci := 1) (v := .ref sb) (C := R_CU) (T := T_CU) (N := 4) hx hb htb in_CU hown hK hP 0 rfl rfl 3 (by decide) (htb _ m_145) (fun _ h9 => h9) rfl d_CU_number_41 ?_
      refine lv_bipush (v := 45) hx hb d_CU_number_44 (by decide) ?_
      have hB0 : Bld [] cap g := bld_nil hB
      have hP : va_P (dC, dI) vwCl ([(x, .inr (1, [.ref dl, .int (nI L.length), .int (nI (a + 1)), .ref sb])), (dl, .inl (cC, 160, .inl f)), (sb, .inr (13, [.ref bv, .int 0, .int u15, .int (nI ([] : List Nat).length)])), (bv, .inl (cB, cap, .inl g))] ++ fz) H := hP
      have hD : va_D A ([(x, .inr (1, [.ref dl, .int (nI L.length), .int (nI (a + 1)), .ref sb])), (dl, .inl (cC, 160, .inl f)), (sb, .inr (13, [.ref bv, .int 0, .int u15, .int (nI ([] : List Nat).length)])), (bv, .inl (cB, cap, .inl g))] ++ fz) := hD
      have hPc := hP.sub (ws' := [(sb, .inr (13, [.ref bv, .int 0, .int u15, .int (nI ([] : List Nat).length)])), (bv, .inl (cB, cap, .inl g))]) [2, 3] rfl
      have hDc := hD.sub (ws' := [(sb, .inr (13, [.ref bv, .int 0, .int u15, .int (nI ([] : List Nat).length)])), (bv, .inl (cB, cap, .inl g))]) [2, 3] (by decide) rfl
      have hFc := va_free (wc := [(sb, .inr (13, [.ref bv, .int 0, .int u15, .int (nI ([] : List Nat).length)])), (bv, .inl (cB, cap, .inl g))]) hD hS hA [2, 3] rfl
      have hKc := hK.sub (tys' := [(cB, .byte)]) [1] rfl
      refine va_callr (va_runV (As := [.int (nI 45)]) (rest := []) ⟨hx, hb, hml, hown, htb⟩ (k_SB_append l dC dI _ sb bv u15 cB g cap ([] : List Nat) 45 em aK aV hB0 (by decide) (by decide)) (cwV 1 htb (g_V (fun _ h => h) m_337 m_334 m_335 m_336 m_3) rfl rfl rfl (by decide +kernel) ⟨Nat.le_of_ble_eq_true rfl, Nat.le_of_ble_eq_true rfl⟩) ⟨fun a U g mk q => by obtain ⟨q0, q1, qP, qK, qD, z0⟩ := q; exact ⟨q0, q1, qP, va_K.moved (u := U) (U := U.calling g mk a) (Vm.Alike.refl U.vm) qK, qD, EX.same (U := U) (U' := U.calling g mk a) rfl z0⟩, va_recv hK hP (ci := 13) rfl (q0 := 2) rfl, fun U hU hW => ⟨rfl, by rw [hU], by rw [hU]; exact hPc, va_K.moved hW.alike hKc, hDc.weaken (fun _ _ _ _ => trivial), by rw [hU]; exact EX.warm hW ((hE.kept (fun a h1 h2 => hS.2.1 a h1 h2)).narrow hFc)⟩⟩ rfl rfl hl.1 rfl (lv_room (Nat.le_of_ble_eq_true rfl)) d_CU_number_46 ⟨(by show 1 ≤ (4 + cns (L.drop a) (num (L.drop a))); omega), (by show 286 ≤ (174 + 286 * cns (L.drop a) (num (L.drop a))); omega)⟩) hS (fun q _ h => hFc q h) hFc (fun u19 ra22 t H1 locs ht hvm hw21 hB hz1 hk1 hS => ?_)
      obtain ⟨x23, hP1, hK1, hD1⟩ := hB
      rw [ht] at hP1
      have hK1 := va_K.moved hvm.symm hK1
      obtain ⟨w24, w25⟩ := u19
      have hw21 : Bld (([] : List Nat) ++ [45]) w24 w25 := hw21
      obtain ⟨hP, hD⟩ := zz_joinN (pre := [(x, .inr (1, [.ref dl, .int (nI L.length), .int (nI (a + 1)), .ref sb])), (dl, .inl (cC, 160, .inl f)), (sb, .inr (13, [.ref bv, .int 0, .int u15, .int (nI ([] : List Nat).length)])), (bv, .inl (cB, cap, .inl g))]) (fz := fz) (wc := [(sb, .inr (13, [.ref bv, .int 0, .int u15, .int (nI ([] : List Nat).length)])), (bv, .inl (cB, cap, .inl g))]) (wr := [(x, .inr (1, [.ref dl, .int (nI L.length), .int (nI (a + 1)), .ref sb])), (dl, .inl (cC, 160, .inl f))]) (w1 := [(sb, .inr (13, [.ref x23, .int 0, .int u15, .int (nI (([] : List Nat) ++ [45]).length)])), (x23, .inl (cB, w24, .inl w25))]) hP hD [2, 3] [0, 1] rfl rfl (by decide) (by decide) hk1 hFc hP1 hD1
      have hK := (hK.sub (tys' := [(cC, .char)]) [0] rfl).app hK1
      generalize H1 = H at hP hS ⊢
      have hP : va_P (dC, dI) vwCl ([(x, .inr (1, [.ref dl, .int (nI L.length), .int (nI (a + 1)), .ref sb])), (dl, .inl (cC, 160, .inl f)), (sb, .inr (13, [.ref x23, .int 0, .int u15, .int (nI (([] : List Nat) ++ [45]).length)])), (x23, .inl (cB, w24, .inl w25))] ++ fz) H := hP
      have hD : va_D A ([(x, .inr (1, [.ref dl, .int (nI L.length), .int (nI (a + 1)), .ref sb])), (dl, .inl (cC, 160, .inl f)), (sb, .inr (13, [.ref x23, .int 0, .int u15, .int (nI (([] : List Nat) ++ [45]).length)])), (x23, .inl (cB, w24, .inl w25))] ++ fz) := hD
      have hK : va_K (dC, dI) vwCl [(cC, .char), (cB, .byte)] s := hK
      refine W.widen (k := 1) (n := 286) (Nat.le_of_ble_eq_true rfl) (Nat.le_of_ble_eq_true rfl) ?_
      refine lv_pop hx hb d_CU_number_49 rfl ?_
      refine lv_lconst (v := 0) hx hb d_CU_number_50 (by decide) ?_
      refine lv_lstore_n hx hb d_CU_number_51 rfl hl (by decide) rfl (fun ls hl => ?_)
      have hl : lv_has ls 6 [(2, .long 0), (1, .int 1), (0, .ref x)] := hl
      refine lv_iconst (v := 0) hx hb d_CU_number_52 (by decide) ?_
      refine lv_istore hx hb d_CU_number_53 hl (by decide) rfl (fun ls hl => ?_)
      have hl : lv_has ls 6 [(4, .int 0), (2, .long 0), (1, .int 1), (0, .ref x)] := hl
      have hloop : ∀ (k9 : Nat) (b : Nat) (bv1 : Nat) (ml1 : Int32) (cap1 : Nat) (g1 : Nat → Int32) (tx1 : List Nat) (k : Nat) (v : Nat) (H : Heap) (locs : List Loc) (ls : Array Slot), L.length - b = k9 → ((a + 1) ≤ b) → (b ≤ L.length) → (Bld tx1 cap1 g1) → (¬ k = 0 → num (L.drop a) = numF true (numD (L.drop b) v)) → (¬ k = 0 → tx1 = [45] ++ digs v) → (¬ k = 0 → 1 ≤ v) → (k = 0 → v = 0) → (k = 0 → tx1 = [45]) → (k = b - (a + 1)) → (tx1.length ≤ b - a) → (v ≤ 2 ^ 63) → (b - a ≤ cns (L.drop a) (num (L.drop a))) → lv_has ls 6 [(4, .int (nI k)), (2, .long (lI (-(v : Int)))), (1, .int 1), (0, .ref x)] → va_P (dC, dI) vwCl ([(x, .inr (1, [.ref dl, .int (nI L.length), .int (nI b), .ref sb])), (dl, .inl (cC, 160, .inl f)), (sb, .inr (13, [.ref bv1, .int 0, .int ml1, .int (nI tx1.length)])), (bv1, .inl (cB, cap1, .inl g1))] ++ fz) H → va_D A ([(x, .inr (1, [.ref dl, .int (nI L.length), .int (nI b), .ref sb])), (dl, .inl (cC, 160, .inl f)), (sb, .inr (13, [.ref bv1, .int 0, .int ml1, .int (nI tx1.length)])), (bv1, .inl (cB, cap1, .inl g1))] ++ fz) → va_S A s.heap H locs → W p l e (headSpec ws_CU_number ({ frames := 6, cells := (4 + cns (L.drop a) (num (L.drop a))), slots := (174 + 286 * cns (L.drop a) (num (L.drop a))), locals := 151 })).room s m args below meth c H locs (b - a) (286 * (b - a)) Q (F0 m 55 ls []) := by
        intro k9
        induction k9 using Nat.strongRecOn with
        | ind k9 ih =>
          intro b bv1 ml1 cap1 g1 tx1 k v H locs ls hk9 hi0 hi1 hiB hi2 hi3 hi4 hi5 hi6 hi7 hi8 hi9 hi10 hl hP hD hS
          refine lv_aload_n hx hb d_CU_number_55 rfl (lv_at hl 3 rfl) ?_
          refine va_get (D := (dC, dI)) (ci := 1) (v := .int (nI b)) (C := R_CU) (T := T_CU) (N := 4) hx hb htb in_CU hown hK hP 0 rfl rfl 2 (by decide) (htb _ m_144) (fun _ h9 => h9) rfl d_CU_number_56 ?_
          refine lv_aload_n hx hb d_CU_number_59 rfl (lv_at hl 3 rfl) ?_
          refine va_get (D := (dC, dI)) (ci := 1) (v := .int (nI L.length)) (C := R_CU) (T := T_CU) (N := 4) hx hb htb in_CU hown hK hP 0 rfl rfl 1 (by decide) (htb _ m_143) (fun _ h9 => h9) rfl d_CU_number_60 ?_
          have hcl := hL.lt b
          have hlb : (L.drop (b + 1)).length = L.length - (b + 1) := List.length_drop
          refine lv_icmp_ge (tgt := 164) hx hb d_CU_number_63 rfl (fun h1 => ?_) (fun h1 => ?_)
          · have h1 : L.length ≤ b := (nI_leI (by omega) (by omega)).mp h1
            have hnd : isDig (L.getD b 0) = false := by rw [getD_end h1]; rfl
            refine lv_iload hx hb d_CU_number_164 (lv_at hl 0 rfl) ?_
            refine lv_if_eq (tgt := 181) hx hb d_CU_number_166 rfl (fun hk1 => ?_) (fun hk1 => ?_)
            · have hk0 : k = 0 := (nI_eq (by omega) (by decide)).mp hk1
              have hbb : b = (a + 1) := by omega
              have hno : num (L.drop a) = none := by rw [hnum, ← hbb, hnd]; rfl
              have hcs : cns (L.drop a) (num (L.drop a)) = L.length - a := by rw [hno]; exact hlen
              refine lv_null hx hb d_CU_number_181 ?_
              have hP9 := zz_pickP (pre := [(x, .inr (1, [.ref dl, .int (nI L.length), .int (nI b), .ref sb])), (dl, .inl (cC, 160, .inl f)), (sb, .inr (13, [.ref bv1, .int 0, .int ml1, .int (nI tx1.length)])), (bv1, .inl (cB, cap1, .inl g1))]) (fz := fz) (wc := [(x, .inr (1, [.ref dl, .int (nI L.length), .int (nI b), .ref sb])), (dl, .inl (cC, 160, .inl f)), (sb, .inr (13, [.ref bv1, .int 0, .int ml1, .int (nI tx1.length)])), (bv1, .inl (cB, cap1, .inl g1))]) hP [0, 1, 2, 3] rfl
              have hD9 := zz_pickD (pre := [(x, .inr (1, [.ref dl, .int (nI L.length), .int (nI b), .ref sb])), (dl, .inl (cC, 160, .inl f)), (sb, .inr (13, [.ref bv1, .int 0, .int ml1, .int (nI tx1.length)])), (bv1, .inl (cB, cap1, .inl g1))]) (fz := fz) (wc := [(x, .inr (1, [.ref dl, .int (nI L.length), .int (nI b), .ref sb])), (dl, .inl (cC, 160, .inl f)), (sb, .inr (13, [.ref bv1, .int 0, .int ml1, .int (nI tx1.length)])), (bv1, .inl (cB, cap1, .inl g1))]) hD [0, 1, 2, 3] (by decide) rfl
              have hK9 := hK.sub (tys' := [(cC, .char), (cB, .byte)]) [0, 1] rfl
              rw [hQ]
              refine W.widen (k := (4 + cns (L.drop a) (num (L.drop a)))) (n := (174 + 286 * cns (L.drop a) (num (L.drop a)))) ((by show (b - a) ≤ (4 + cns (L.drop a) (num (L.drop a))); omega)) ((by show (286 * (b - a)) ≤ (174 + 286 * cns (L.drop a) (num (L.drop a))); omega)) ?_
              exact W.aret (v := .null) hx hb hr (Or.inl ⟨_, rfl⟩) (Or.inl rfl) (fun t ht hW => ⟨⟨none, (b, ml1, tx1, cap1, g1, []), rfl, ⟨hiB, by omega, by omega, Or.inl ⟨rfl, hno, rfl⟩⟩, ⟨bv1, by rw [ht]; exact hP9, va_K.moved hW.alike hK9, hD9⟩⟩, hS.F ht⟩) hS.2.2 d_CU_number_182
            · have hk0 : ¬ k = 0 := fun h => hk1 (by rw [h]; rfl)
              have hfin : num (L.drop a) = numF true (some (v, L.drop b)) := by rw [hi2 hk0, numD_end hnd]
              have hv1 := hi4 hk0
              refine lv_iload_n hx hb d_CU_number_169 rfl (lv_at hl 2 rfl) ?_
              refine lv_if_ne (tgt := 183) hx hb d_CU_number_170 rfl (fun _ => ?_) (fun h9 => absurd h9 (by decide))
              have hsm : num (L.drop a) = some (-(v : Int), L.drop b) := by rw [hfin]; rfl
              have hcs : cns (L.drop a) (num (L.drop a)) = b - a := by rw [hsm]; show (L.drop a).length - (L.drop b).length = b - a; rw [hlen, List.length_drop]; omega
              refine va_new (ci := 3) (fs := [.int 0, .null, .long 0, .null, .null, .int 0, .int 0]) (C := R_VA) (T := T_VA) (N := 7) hx hb htb in_VA ty_VA ty_VA_ok hown (htb _ m_436) (htb _ m_370) (htb _ m_18) hK hP hD hS hA rfl (fun j hj => by rcases (show j = 0 ∨ j = 1 ∨ j = 2 ∨ j = 3 ∨ j = 4 ∨ j = 5 ∨ j = 6 by omega) with rfl | rfl | rfl | rfl | rfl | rfl | rfl <;> rfl) ((by show ((b - a) + 1) ≤ (4 + cns (L.drop a) (num (L.drop a))); omega)) ((by show ((286 * (b - a)) + 7) ≤ (174 + 286 * cns (L.drop a) (num (L.drop a))); omega)) d_CU_number_183 (fun z H hP hD hS => ?_)
              have hP := zz_rotP (pre := [(x, .inr (1, [.ref dl, .int (nI L.length), .int (nI b), .ref sb])), (dl, .inl (cC, 160, .inl f)), (sb, .inr (13, [.ref bv1, .int 0, .int ml1, .int (nI tx1.length)])), (bv1, .inl (cB, cap1, .inl g1))]) (fz := fz) hP
              have hD := zz_rotD (pre := [(x, .inr (1, [.ref dl, .int (nI L.length), .int (nI b), .ref sb])), (dl, .inl (cC, 160, .inl f)), (sb, .inr (13, [.ref bv1, .int 0, .int ml1, .int (nI tx1.length)])), (bv1, .inl (cB, cap1, .inl g1))]) (fz := fz) hD
              have hP : va_P (dC, dI) vwCl ([(x, .inr (1, [.ref dl, .int (nI L.length), .int (nI b), .ref sb])), (dl, .inl (cC, 160, .inl f)), (sb, .inr (13, [.ref bv1, .int 0, .int ml1, .int (nI tx1.length)])), (bv1, .inl (cB, cap1, .inl g1)), (z, .inr (3, [.int 0, .null, .long 0, .null, .null, .int 0, .int 0]))] ++ fz) H := hP
              have hD : va_D A ([(x, .inr (1, [.ref dl, .int (nI L.length), .int (nI b), .ref sb])), (dl, .inl (cC, 160, .inl f)), (sb, .inr (13, [.ref bv1, .int 0, .int ml1, .int (nI tx1.length)])), (bv1, .inl (cB, cap1, .inl g1)), (z, .inr (3, [.int 0, .null, .long 0, .null, .null, .int 0, .int 0]))] ++ fz) := hD
              refine lv_dup hx hb d_CU_number_186 rfl ?_
              refine lv_iconst (v := 1) hx hb d_CU_number_187 (by decide) ?_
              refine lv_aload_n hx hb d_CU_number_188 rfl (lv_at hl 3 rfl) ?_
              refine va_get (D := (dC, dI)) (ci := 1) (v := .ref sb) (C := R_CU) (T := T_CU) (N := 4) hx hb htb in_CU hown hK hP 0 rfl rfl 3 (by decide) (htb _ m_145) (fun _ h9 => h9) rfl d_CU_number_189 ?_
              have hPc := hP.sub (ws' := [(sb, .inr (13, [.ref bv1, .int 0, .int ml1, .int (nI tx1.length)])), (bv1, .inl (cB, cap1, .inl g1))]) [2, 3] rfl
              have hDc := hD.sub (ws' := [(sb, .inr (13, [.ref bv1, .int 0, .int ml1, .int (nI tx1.length)])), (bv1, .inl (cB, cap1, .inl g1))]) [2, 3] (by decide) rfl
              have hFc := va_free (wc := [(sb, .inr (13, [.ref bv1, .int 0, .int ml1, .int (nI tx1.length)])), (bv1, .inl (cB, cap1, .inl g1))]) hD hS hA [2, 3] rfl
              have hKc := hK.sub (tys' := [(cB, .byte)]) [1] rfl
              refine va_callr (va_runV (As := []) (rest := [.int 1, .ref z, .ref z]) ⟨hx, hb, hml, hown, htb⟩ (k_SB_toString l dC dI _ sb bv1 ml1 tx1.length cB g1 cap1 em aK aV hiB.2.2.2.1 (by omega) hiB.2.1 hiB.cap) (cwV 0 htb (g_V (fun _ h => h) m_256 m_253 m_254 m_255 m_3) rfl rfl rfl (by decide +kernel) ⟨Nat.le_of_ble_eq_true rfl, Nat.le_of_ble_eq_true rfl⟩) ⟨fun a U g mk q => by obtain ⟨q0, q1, qP, qK, qD, z0⟩ := q; exact ⟨q0, q1, qP, va_K.moved (u := U) (U := U.calling g mk a) (Vm.Alike.refl U.vm) qK, qD, EX.same (U := U) (U' := U.calling g mk a) rfl z0⟩, va_recv hK hP (ci := 13) rfl (q0 := 2) rfl, fun U hU hW => ⟨rfl, by rw [hU], by rw [hU]; exact hPc, va_K.moved hW.alike hKc, hDc.weaken (fun _ _ _ _ => trivial), by rw [hU]; exact EX.warm hW ((hE.kept (fun a h1 h2 => hS.2.1 a h1 h2)).narrow hFc)⟩⟩ rfl rfl hl.1 rfl (lv_room (Nat.le_of_ble_eq_true rfl)) d_CU_number_192 ⟨(by show (((b - a) + 1) + 2) ≤ (4 + cns (L.drop a) (num (L.drop a))); omega), (by show (((286 * (b - a)) + 7) + 164) ≤ (174 + 286 * cns (L.drop a) (num (L.drop a))); omega)⟩) hS (fun q _ h => hFc q h) hFc (fun u26 ra29 t H1 locs ht hvm hw28 hB hz1 hk1 hS => ?_)
              obtain ⟨x30, hP1, hK1, hD1⟩ := hB
              rw [ht] at hP1
              have hK1 := va_K.moved hvm.symm hK1
              have hw28 : ∀ i, i < tx1.length → u26 i = g1 i := hw28
              obtain ⟨hP, hD⟩ := zz_joinN (pre := [(x, .inr (1, [.ref dl, .int (nI L.length), .int (nI b), .ref sb])), (dl, .inl (cC, 160, .inl f)), (sb, .inr (13, [.ref bv1, .int 0, .int ml1, .int (nI tx1.length)])), (bv1, .inl (cB, cap1, .inl g1)), (z, .inr (3, [.int 0, .null, .long 0, .null, .null, .int 0, .int 0]))]) (fz := fz) (wc := [(sb, .inr (13, [.ref bv1, .int 0, .int ml1, .int (nI tx1.length)])), (bv1, .inl (cB, cap1, .inl g1))]) (wr := [(x, .inr (1, [.ref dl, .int (nI L.length), .int (nI b), .ref sb])), (dl, .inl (cC, 160, .inl f)), (z, .inr (3, [.int 0, .null, .long 0, .null, .null, .int 0, .int 0]))]) (w1 := [(sb, .inr (13, [.ref bv1, .int 0, .int ml1, .int (nI tx1.length)])), (bv1, .inl (cB, cap1, .inl g1)), (ra29, .inr (15, [.ref x30, .int 0, .int 0, .int 0])), (x30, .inl (cB, tx1.length, .inl u26))]) hP hD [2, 3] [0, 1, 4] rfl rfl (by decide) (by decide) hk1 hFc hP1 hD1
              have hK := (hK.sub (tys' := [(cC, .char)]) [0] rfl).app hK1
              generalize H1 = H at hP hS ⊢
              have hP : va_P (dC, dI) vwCl ([(x, .inr (1, [.ref dl, .int (nI L.length), .int (nI b), .ref sb])), (dl, .inl (cC, 160, .inl f)), (z, .inr (3, [.int 0, .null, .long 0, .null, .null, .int 0, .int 0])), (sb, .inr (13, [.ref bv1, .int 0, .int ml1, .int (nI tx1.length)])), (bv1, .inl (cB, cap1, .inl g1)), (ra29, .inr (15, [.ref x30, .int 0, .int 0, .int 0])), (x30, .inl (cB, tx1.length, .inl u26))] ++ fz) H := hP
              have hD : va_D A ([(x, .inr (1, [.ref dl, .int (nI L.length), .int (nI b), .ref sb])), (dl, .inl (cC, 160, .inl f)), (z, .inr (3, [.int 0, .null, .long 0, .null, .null, .int 0, .int 0])), (sb, .inr (13, [.ref bv1, .int 0, .int ml1, .int (nI tx1.length)])), (bv1, .inl (cB, cap1, .inl g1)), (ra29, .inr (15, [.ref x30, .int 0, .int 0, .int 0])), (x30, .inl (cB, tx1.length, .inl u26))] ++ fz) := hD
              have hK : va_K (dC, dI) vwCl [(cC, .char), (cB, .byte)] s := hK
              refine lv_iload_n hx hb d_CU_number_195 rfl (lv_at hl 2 rfl) ?_
              refine lv_if_eq (tgt := 203) hx hb d_CU_number_196 rfl (fun h9 => absurd h9 (by decide)) (fun _ => ?_)
              refine lv_lload_n hx hb d_CU_number_199 rfl (lv_at hl 1 rfl) ?_
              refine lv_goto (tgt := 205) hx hb d_CU_number_200 rfl ?_
              have hPc := hP.sub (ws' := [(z, .inr (3, [.int 0, .null, .long 0, .null, .null, .int 0, .int 0]))]) [2] rfl
              have hDc := hD.sub (ws' := [(z, .inr (3, [.int 0, .null, .long 0, .null, .null, .int 0, .int 0]))]) [2] (by decide) rfl
              have hFc := va_free (wc := [(z, .inr (3, [.int 0, .null, .long 0, .null, .null, .int 0, .int 0]))]) hD hS hA [2] rfl
              have hKc := hK.sub (tys' := []) [] rfl
              refine va_callv (va_runI (As := [.int 1, .ref ra29, .long (lI (-(v : Int)))]) (rest := [.ref z]) ⟨hx, hb, hml, hown, htb⟩ (k_VA_init l dC dI _ z 1 ra29 (lI (-(v : Int))) em aK aV ) (cwI 3 htb (g_all (fun _ h => h) m_373) rfl rfl rfl (htb _ m_18) (htb _ m_438) (htb _ m_372) rfl (by decide +kernel) ⟨Nat.le_of_ble_eq_true rfl, Nat.le_of_ble_eq_true rfl⟩) ⟨fun a U g mk q => by obtain ⟨q0, q1, qP, qK, qD, z0⟩ := q; exact ⟨q0, q1, qP, va_K.moved (u := U) (U := U.calling g mk a) (Vm.Alike.refl U.vm) qK, qD, EX.same (U := U) (U' := U.calling g mk a) rfl z0⟩, fun U hU hW => ⟨rfl, by rw [hU], by rw [hU]; exact hPc, va_K.moved hW.alike hKc, hDc.weaken (fun _ _ _ _ => trivial), by rw [hU]; exact EX.warm hW ((hE.kept (fun a h1 h2 => hS.2.1 a h1 h2)).narrow hFc)⟩⟩ rfl rfl hl.1 rfl (lv_room (Nat.le_of_ble_eq_true rfl)) d_CU_number_205 ⟨(by show ((((b - a) + 1) + 2) + 1) ≤ (4 + cns (L.drop a) (num (L.drop a))); omega), (by show ((((286 * (b - a)) + 7) + 164) + 3) ≤ (174 + 286 * cns (L.drop a) (num (L.drop a))); omega)⟩) hS (fun q _ h => hFc q h) hFc (fun u31 t H1 locs ht hvm hw33 hB hz1 hk1 hS => ?_)
              obtain ⟨x35, hP1, hK1, hD1⟩ := hB
              rw [ht] at hP1
              have hK1 := va_K.moved hvm.symm hK1
              have hw33 : True := hw33
              obtain ⟨hP, hD⟩ := zz_joinN (pre := [(x, .inr (1, [.ref dl, .int (nI L.length), .int (nI b), .ref sb])), (dl, .inl (cC, 160, .inl f)), (z, .inr (3, [.int 0, .null, .long 0, .null, .null, .int 0, .int 0])), (sb, .inr (13, [.ref bv1, .int 0, .int ml1, .int (nI tx1.length)])), (bv1, .inl (cB, cap1, .inl g1)), (ra29, .inr (15, [.ref x30, .int 0, .int 0, .int 0])), (x30, .inl (cB, tx1.length, .inl u26))]) (fz := fz) (wc := [(z, .inr (3, [.int 0, .null, .long 0, .null, .null, .int 0, .int 0]))]) (wr := [(x, .inr (1, [.ref dl, .int (nI L.length), .int (nI b), .ref sb])), (dl, .inl (cC, 160, .inl f)), (sb, .inr (13, [.ref bv1, .int 0, .int ml1, .int (nI tx1.length)])), (bv1, .inl (cB, cap1, .inl g1)), (ra29, .inr (15, [.ref x30, .int 0, .int 0, .int 0])), (x30, .inl (cB, tx1.length, .inl u26))]) (w1 := [(z, .inr (3, [.int 1, .ref ra29, .long (lI (-(v : Int))), .ref (aK 0), .ref x35, .int 0, .int 1])), (x35, .inr (14, [.ref em, .int 0, .int 0]))]) hP hD [2] [0, 1, 3, 4, 5, 6] rfl rfl (by decide) (by decide) hk1 hFc hP1 hD1
              have hK := (hK.sub (tys' := [(cC, .char), (cB, .byte)]) [0, 1] rfl).app hK1
              generalize H1 = H at hP hS ⊢
              have hP : va_P (dC, dI) vwCl ([(x, .inr (1, [.ref dl, .int (nI L.length), .int (nI b), .ref sb])), (dl, .inl (cC, 160, .inl f)), (sb, .inr (13, [.ref bv1, .int 0, .int ml1, .int (nI tx1.length)])), (bv1, .inl (cB, cap1, .inl g1)), (ra29, .inr (15, [.ref x30, .int 0, .int 0, .int 0])), (x30, .inl (cB, tx1.length, .inl u26)), (z, .inr (3, [.int 1, .ref ra29, .long (lI (-(v : Int))), .ref (aK 0), .ref x35, .int 0, .int 1])), (x35, .inr (14, [.ref em, .int 0, .int 0]))] ++ fz) H := hP
              have hD : va_D A ([(x, .inr (1, [.ref dl, .int (nI L.length), .int (nI b), .ref sb])), (dl, .inl (cC, 160, .inl f)), (sb, .inr (13, [.ref bv1, .int 0, .int ml1, .int (nI tx1.length)])), (bv1, .inl (cB, cap1, .inl g1)), (ra29, .inr (15, [.ref x30, .int 0, .int 0, .int 0])), (x30, .inl (cB, tx1.length, .inl u26)), (z, .inr (3, [.int 1, .ref ra29, .long (lI (-(v : Int))), .ref (aK 0), .ref x35, .int 0, .int 1])), (x35, .inr (14, [.ref em, .int 0, .int 0]))] ++ fz) := hD
              have hK : va_K (dC, dI) vwCl [(cC, .char), (cB, .byte)] s := hK
              have hdec : tx1 = dec (-(v : Int)) := (hi3 hk0).trans (dec_neg hv1).symm
              have hrng := nb_rng1 hi9
              have hP9 := zz_pickP (pre := [(x, .inr (1, [.ref dl, .int (nI L.length), .int (nI b), .ref sb])), (dl, .inl (cC, 160, .inl f)), (sb, .inr (13, [.ref bv1, .int 0, .int ml1, .int (nI tx1.length)])), (bv1, .inl (cB, cap1, .inl g1)), (ra29, .inr (15, [.ref x30, .int 0, .int 0, .int 0])), (x30, .inl (cB, tx1.length, .inl u26)), (z, .inr (3, [.int 1, .ref ra29, .long (lI (-(v : Int))), .ref (aK 0), .ref x35, .int 0, .int 1])), (x35, .inr (14, [.ref em, .int 0, .int 0]))]) (fz := fz) (wc := [(x, .inr (1, [.ref dl, .int (nI L.length), .int (nI b), .ref sb])), (dl, .inl (cC, 160, .inl f)), (sb, .inr (13, [.ref bv1, .int 0, .int ml1, .int (nI tx1.length)])), (bv1, .inl (cB, cap1, .inl g1)), (z, .inr (3, [.int 1, .ref ra29, .long (lI (-(v : Int))), .ref (aK 0), .ref x35, .int 0, .int 1])), (x35, .inr (14, [.ref em, .int 0, .int 0])), (ra29, .inr (15, [.ref x30, .int 0, .int 0, .int 0])), (x30, .inl (cB, tx1.length, .inl u26))]) hP [0, 1, 2, 3, 6, 7, 4, 5] rfl
              have hD9 := zz_pickD (pre := [(x, .inr (1, [.ref dl, .int (nI L.length), .int (nI b), .ref sb])), (dl, .inl (cC, 160, .inl f)), (sb, .inr (13, [.ref bv1, .int 0, .int ml1, .int (nI tx1.length)])), (bv1, .inl (cB, cap1, .inl g1)), (ra29, .inr (15, [.ref x30, .int 0, .int 0, .int 0])), (x30, .inl (cB, tx1.length, .inl u26)), (z, .inr (3, [.int 1, .ref ra29, .long (lI (-(v : Int))), .ref (aK 0), .ref x35, .int 0, .int 1])), (x35, .inr (14, [.ref em, .int 0, .int 0]))]) (fz := fz) (wc := [(x, .inr (1, [.ref dl, .int (nI L.length), .int (nI b), .ref sb])), (dl, .inl (cC, 160, .inl f)), (sb, .inr (13, [.ref bv1, .int 0, .int ml1, .int (nI tx1.length)])), (bv1, .inl (cB, cap1, .inl g1)), (z, .inr (3, [.int 1, .ref ra29, .long (lI (-(v : Int))), .ref (aK 0), .ref x35, .int 0, .int 1])), (x35, .inr (14, [.ref em, .int 0, .int 0])), (ra29, .inr (15, [.ref x30, .int 0, .int 0, .int 0])), (x30, .inl (cB, tx1.length, .inl u26))]) hD [0, 1, 2, 3, 6, 7, 4, 5] (by decide) rfl
              have hK9 := hK.sub (tys' := [(cC, .char), (cB, .byte)]) [0, 1] rfl
              rw [hQ]
              refine W.widen (k := (4 + cns (L.drop a) (num (L.drop a)))) (n := (174 + 286 * cns (L.drop a) (num (L.drop a)))) ((by show ((((b - a) + 1) + 2) + 1) ≤ (4 + cns (L.drop a) (num (L.drop a))); omega)) ((by show ((((286 * (b - a)) + 7) + 164) + 3) ≤ (174 + 286 * cns (L.drop a) (num (L.drop a))); omega)) ?_
              exact W.aret (v := .ref z) hx hb hr (Or.inl ⟨_, rfl⟩) (Or.inr ⟨_, rfl⟩) (fun t ht hW => ⟨⟨(some z), (b, ml1, tx1, cap1, g1, [(z, .inr (3, [.int 1, .ref ra29, .long (lI (-(v : Int))), .ref (aK 0), .ref x35, .int 0, .int 1])), (x35, .inr (14, [.ref em, .int 0, .int 0])), (ra29, .inr (15, [.ref x30, .int 0, .int 0, .int 0])), (x30, .inl (cB, tx1.length, .inl u26))]), rfl, ⟨hiB, by omega, by omega, Or.inr ⟨_, _, rfl, hsm, VT.scalar (a := z) (tx := ra29) (nm := aK 0) (pa := x35) (mo := 0) (tt := tx1) (nn := []) List.mem_cons_self (Or.inl ⟨x30, u26, List.mem_cons_of_mem _ (List.mem_cons_of_mem _ List.mem_cons_self), List.mem_cons_of_mem _ (List.mem_cons_of_mem _ (List.mem_cons_of_mem _ List.mem_cons_self)), fun i hi => by rw [hw28 i hi, hiB.2.2.1 i hi], hiB.2.2.2.2, by omega⟩) (Or.inr ⟨0, by decide, rfl, rfl⟩) (List.mem_cons_of_mem _ List.mem_cons_self) (nb_hd hdec hrng) (by decide)⟩⟩, ⟨bv1, by rw [ht]; exact hP9, va_K.moved hW.alike hK9, hD9⟩⟩, hS.F ht⟩) hS.2.2 d_CU_number_208
          · have h1 : b < L.length := Nat.not_le.mp (fun h => h1 ((nI_leI (by omega) (by omega)).mpr h))
            refine lv_aload_n hx hb d_CU_number_66 rfl (lv_at hl 3 rfl) ?_
            refine va_get (D := (dC, dI)) (ci := 1) (v := .ref dl) (C := R_CU) (T := T_CU) (N := 4) hx hb htb in_CU hown hK hP 0 rfl rfl 0 (by decide) (htb _ m_142) (fun _ h9 => h9) rfl d_CU_number_67 ?_
            refine lv_aload_n hx hb d_CU_number_70 rfl (lv_at hl 3 rfl) ?_
            refine va_get (D := (dC, dI)) (ci := 1) (v := .int (nI b)) (C := R_CU) (T := T_CU) (N := 4) hx hb htb in_CU hown hK hP 0 rfl rfl 2 (by decide) (htb _ m_144) (fun _ h9 => h9) rfl d_CU_number_71 ?_
            refine va_cald hx hb hK hP 1 0 rfl rfl (vp_in_nI (by omega) (by omega)) d_CU_number_74 ?_
            refine W.eq (congrArg (fun z => F0 m 75 ls (.int z :: [])) (by rw [nI_clamp (by omega)]; exact hL.2.2 _ h1 : (f (nI b).toNatClampNeg) = nI (L.getD b 0))) ?_
            have hPc : va_P (dC, dI) vwCl [] _ := hP.sub (ws' := []) [] rfl
            have hKc := hK.sub (tys' := []) [] rfl
            refine vp_callSi (va_Run.run (va_runSN (As := [.int (nI (L.getD b 0))]) (rest := []) ⟨hx, hb, hml, hown, htb⟩ (q_PS_isDigit l dC dI (L.getD b 0) (by omega)) ⟨va_cnB 1 htb (g_all (fun _ h => h) m_427) rfl rfl rfl (nw_2 hE) (htb _ m_1) (by decide +kernel) ⟨Nat.le_of_ble_eq_true rfl, Nat.le_of_ble_eq_true rfl⟩, (htb _ m_426), trivial⟩ ⟨fun a U g mk q => by obtain ⟨q0, qP, qK⟩ := q; exact ⟨q0, qP, va_K.moved (u := U) (U := U.calling g mk a) (Vm.Alike.refl U.vm) qK⟩, fun U hU hW => ⟨rfl, by rw [hU]; exact hPc, va_K.moved hW.alike hKc⟩⟩ rfl rfl hl.1 rfl (lv_room (Nat.le_of_ble_eq_true rfl)) d_CU_number_75 ⟨(by show (b - a) ≤ (4 + cns (L.drop a) (num (L.drop a))); omega), (by show (286 * (b - a)) ≤ (174 + 286 * cns (L.drop a) (num (L.drop a))); omega)⟩)) (fun r26 hw27 => ?_)
            have hw27 : r26 = bI (isDig (L.getD b 0)) := hw27
            refine lv_if_eq (tgt := 164) hx hb d_CU_number_78 rfl (fun h2 => ?_) (fun h2 => ?_)
            · have hnd : isDig (L.getD b 0) = false := bI_eq.mp (hw27 ▸ h2)
              refine lv_iload hx hb d_CU_number_164 (lv_at hl 0 rfl) ?_
              refine lv_if_eq (tgt := 181) hx hb d_CU_number_166 rfl (fun hk1 => ?_) (fun hk1 => ?_)
              · have hk0 : k = 0 := (nI_eq (by omega) (by decide)).mp hk1
                have hbb : b = (a + 1) := by omega
                have hno : num (L.drop a) = none := by rw [hnum, ← hbb, hnd]; rfl
                have hcs : cns (L.drop a) (num (L.drop a)) = L.length - a := by rw [hno]; exact hlen
                refine lv_null hx hb d_CU_number_181 ?_
                have hP9 := zz_pickP (pre := [(x, .inr (1, [.ref dl, .int (nI L.length), .int (nI b), .ref sb])), (dl, .inl (cC, 160, .inl f)), (sb, .inr (13, [.ref bv1, .int 0, .int ml1, .int (nI tx1.length)])), (bv1, .inl (cB, cap1, .inl g1))]) (fz := fz) (wc := [(x, .inr (1, [.ref dl, .int (nI L.length), .int (nI b), .ref sb])), (dl, .inl (cC, 160, .inl f)), (sb, .inr (13, [.ref bv1, .int 0, .int ml1, .int (nI tx1.length)])), (bv1, .inl (cB, cap1, .inl g1))]) hP [0, 1, 2, 3] rfl
                have hD9 := zz_pickD (pre := [(x, .inr (1, [.ref dl, .int (nI L.length), .int (nI b), .ref sb])), (dl, .inl (cC, 160, .inl f)), (sb, .inr (13, [.ref bv1, .int 0, .int ml1, .int (nI tx1.length)])), (bv1, .inl (cB, cap1, .inl g1))]) (fz := fz) (wc := [(x, .inr (1, [.ref dl, .int (nI L.length), .int (nI b), .ref sb])), (dl, .inl (cC, 160, .inl f)), (sb, .inr (13, [.ref bv1, .int 0, .int ml1, .int (nI tx1.length)])), (bv1, .inl (cB, cap1, .inl g1))]) hD [0, 1, 2, 3] (by decide) rfl
                have hK9 := hK.sub (tys' := [(cC, .char), (cB, .byte)]) [0, 1] rfl
                rw [hQ]
                refine W.widen (k := (4 + cns (L.drop a) (num (L.drop a)))) (n := (174 + 286 * cns (L.drop a) (num (L.drop a)))) ((by show (b - a) ≤ (4 + cns (L.drop a) (num (L.drop a))); omega)) ((by show (286 * (b - a)) ≤ (174 + 286 * cns (L.drop a) (num (L.drop a))); omega)) ?_
                exact W.aret (v := .null) hx hb hr (Or.inl ⟨_, rfl⟩) (Or.inl rfl) (fun t ht hW => ⟨⟨none, (b, ml1, tx1, cap1, g1, []), rfl, ⟨hiB, by omega, by omega, Or.inl ⟨rfl, hno, rfl⟩⟩, ⟨bv1, by rw [ht]; exact hP9, va_K.moved hW.alike hK9, hD9⟩⟩, hS.F ht⟩) hS.2.2 d_CU_number_182
              · have hk0 : ¬ k = 0 := fun h => hk1 (by rw [h]; rfl)
                have hfin : num (L.drop a) = numF true (some (v, L.drop b)) := by rw [hi2 hk0, numD_end hnd]
                have hv1 := hi4 hk0
                refine lv_iload_n hx hb d_CU_number_169 rfl (lv_at hl 2 rfl) ?_
                refine lv_if_ne (tgt := 183) hx hb d_CU_number_170 rfl (fun _ => ?_) (fun h9 => absurd h9 (by decide))
                have hsm : num (L.drop a) = some (-(v : Int), L.drop b) := by rw [hfin]; rfl
                have hcs : cns (L.drop a) (num (L.drop a)) = b - a := by rw [hsm]; show (L.drop a).length - (L.drop b).length = b - a; rw [hlen, List.length_drop]; omega
                refine va_new (ci := 3) (fs := [.int 0, .null, .long 0, .null, .null, .int 0, .int 0]) (C := R_VA) (T := T_VA) (N := 7) hx hb htb in_VA ty_VA ty_VA_ok hown (htb _ m_436) (htb _ m_370) (htb _ m_18) hK hP hD hS hA rfl (fun j hj => by rcases (show j = 0 ∨ j = 1 ∨ j = 2 ∨ j = 3 ∨ j = 4 ∨ j = 5 ∨ j = 6 by omega) with rfl | rfl | rfl | rfl | rfl | rfl | rfl <;> rfl) ((by show ((b - a) + 1) ≤ (4 + cns (L.drop a) (num (L.drop a))); omega)) ((by show ((286 * (b - a)) + 7) ≤ (174 + 286 * cns (L.drop a) (num (L.drop a))); omega)) d_CU_number_183 (fun z H hP hD hS => ?_)
                have hP := zz_rotP (pre := [(x, .inr (1, [.ref dl, .int (nI L.length), .int (nI b), .ref sb])), (dl, .inl (cC, 160, .inl f)), (sb, .inr (13, [.ref bv1, .int 0, .int ml1, .int (nI tx1.length)])), (bv1, .inl (cB, cap1, .inl g1))]) (fz := fz) hP
                have hD := zz_rotD (pre := [(x, .inr (1, [.ref dl, .int (nI L.length), .int (nI b), .ref sb])), (dl, .inl (cC, 160, .inl f)), (sb, .inr (13, [.ref bv1, .int 0, .int ml1, .int (nI tx1.length)])), (bv1, .inl (cB, cap1, .inl g1))]) (fz := fz) hD
                have hP : va_P (dC, dI) vwCl ([(x, .inr (1, [.ref dl, .int (nI L.length), .int (nI b), .ref sb])), (dl, .inl (cC, 160, .inl f)), (sb, .inr (13, [.ref bv1, .int 0, .int ml1, .int (nI tx1.length)])), (bv1, .inl (cB, cap1, .inl g1)), (z, .inr (3, [.int 0, .null, .long 0, .null, .null, .int 0, .int 0]))] ++ fz) H := hP
                have hD : va_D A ([(x, .inr (1, [.ref dl, .int (nI L.length), .int (nI b), .ref sb])), (dl, .inl (cC, 160, .inl f)), (sb, .inr (13, [.ref bv1, .int 0, .int ml1, .int (nI tx1.length)])), (bv1, .inl (cB, cap1, .inl g1)), (z, .inr (3, [.int 0, .null, .long 0, .null, .null, .int 0, .int 0]))] ++ fz) := hD
                refine lv_dup hx hb d_CU_number_186 rfl ?_
                refine lv_iconst (v := 1) hx hb d_CU_number_187 (by decide) ?_
                refine lv_aload_n hx hb d_CU_number_188 rfl (lv_at hl 3 rfl) ?_
                refine va_get (D := (dC, dI)) (ci := 1) (v := .ref sb) (C := R_CU) (T := T_CU) (N := 4) hx hb htb in_CU hown hK hP 0 rfl rfl 3 (by decide) (htb _ m_145) (fun _ h9 => h9) rfl d_CU_number_189 ?_
                have hPc := hP.sub (ws' := [(sb, .inr (13, [.ref bv1, .int 0, .int ml1, .int (nI tx1.length)])), (bv1, .inl (cB, cap1, .inl g1))]) [2, 3] rfl
                have hDc := hD.sub (ws' := [(sb, .inr (13, [.ref bv1, .int 0, .int ml1, .int (nI tx1.length)])), (bv1, .inl (cB, cap1, .inl g1))]) [2, 3] (by decide) rfl
                have hFc := va_free (wc := [(sb, .inr (13, [.ref bv1, .int 0, .int ml1, .int (nI tx1.length)])), (bv1, .inl (cB, cap1, .inl g1))]) hD hS hA [2, 3] rfl
                have hKc := hK.sub (tys' := [(cB, .byte)]) [1] rfl
                refine va_callr (va_runV (As := []) (rest := [.int 1, .ref z, .ref z]) ⟨hx, hb, hml, hown, htb⟩ (k_SB_toString l dC dI _ sb bv1 ml1 tx1.length cB g1 cap1 em aK aV hiB.2.2.2.1 (by omega) hiB.2.1 hiB.cap) (cwV 0 htb (g_V (fun _ h => h) m_256 m_253 m_254 m_255 m_3) rfl rfl rfl (by decide +kernel) ⟨Nat.le_of_ble_eq_true rfl, Nat.le_of_ble_eq_true rfl⟩) ⟨fun a U g mk q => by obtain ⟨q0, q1, qP, qK, qD, z0⟩ := q; exact ⟨q0, q1, qP, va_K.moved (u := U) (U := U.calling g mk a) (Vm.Alike.refl U.vm) qK, qD, EX.same (U := U) (U' := U.calling g mk a) rfl z0⟩, va_recv hK hP (ci := 13) rfl (q0 := 2) rfl, fun U hU hW => ⟨rfl, by rw [hU], by rw [hU]; exact hPc, va_K.moved hW.alike hKc, hDc.weaken (fun _ _ _ _ => trivial), by rw [hU]; exact EX.warm hW ((hE.kept (fun a h1 h2 => hS.2.1 a h1 h2)).narrow hFc)⟩⟩ rfl rfl hl.1 rfl (lv_room (Nat.le_of_ble_eq_true rfl)) d_CU_number_192 ⟨(by show (((b - a) + 1) + 2) ≤ (4 + cns (L.drop a) (num (L.drop a))); omega), (by show (((286 * (b - a)) + 7) + 164) ≤ (174 + 286 * cns (L.drop a) (num (L.drop a))); omega)⟩) hS (fun q _ h => hFc q h) hFc (fun u28 ra31 t H1 locs ht hvm hw30 hB hz1 hk1 hS => ?_)
                obtain ⟨x32, hP1, hK1, hD1⟩ := hB
                rw [ht] at hP1
                have hK1 := va_K.moved hvm.symm hK1
                have hw30 : ∀ i, i < tx1.length → u28 i = g1 i := hw30
                obtain ⟨hP, hD⟩ := zz_joinN (pre := [(x, .inr (1, [.ref dl, .int (nI L.length), .int (nI b), .ref sb])), (dl, .inl (cC, 160, .inl f)), (sb, .inr (13, [.ref bv1, .int 0, .int ml1, .int (nI tx1.length)])), (bv1, .inl (cB, cap1, .inl g1)), (z, .inr (3, [.int 0, .null, .long 0, .null, .null, .int 0, .int 0]))]) (fz := fz) (wc := [(sb, .inr (13, [.ref bv1, .int 0, .int ml1, .int (nI tx1.length)])), (bv1, .inl (cB, cap1, .inl g1))]) (wr := [(x, .inr (1, [.ref dl, .int (nI L.length), .int (nI b), .ref sb])), (dl, .inl (cC, 160, .inl f)), (z, .inr (3, [.int 0, .null, .long 0, .null, .null, .int 0, .int 0]))]) (w1 := [(sb, .inr (13, [.ref bv1, .int 0, .int ml1, .int (nI tx1.length)])), (bv1, .inl (cB, cap1, .inl g1)), (ra31, .inr (15, [.ref x32, .int 0, .int 0, .int 0])), (x32, .inl (cB, tx1.length, .inl u28))]) hP hD [2, 3] [0, 1, 4] rfl rfl (by decide) (by decide) hk1 hFc hP1 hD1
                have hK := (hK.sub (tys' := [(cC, .char)]) [0] rfl).app hK1
                generalize H1 = H at hP hS ⊢
                have hP : va_P (dC, dI) vwCl ([(x, .inr (1, [.ref dl, .int (nI L.length), .int (nI b), .ref sb])), (dl, .inl (cC, 160, .inl f)), (z, .inr (3, [.int 0, .null, .long 0, .null, .null, .int 0, .int 0])), (sb, .inr (13, [.ref bv1, .int 0, .int ml1, .int (nI tx1.length)])), (bv1, .inl (cB, cap1, .inl g1)), (ra31, .inr (15, [.ref x32, .int 0, .int 0, .int 0])), (x32, .inl (cB, tx1.length, .inl u28))] ++ fz) H := hP
                have hD : va_D A ([(x, .inr (1, [.ref dl, .int (nI L.length), .int (nI b), .ref sb])), (dl, .inl (cC, 160, .inl f)), (z, .inr (3, [.int 0, .null, .long 0, .null, .null, .int 0, .int 0])), (sb, .inr (13, [.ref bv1, .int 0, .int ml1, .int (nI tx1.length)])), (bv1, .inl (cB, cap1, .inl g1)), (ra31, .inr (15, [.ref x32, .int 0, .int 0, .int 0])), (x32, .inl (cB, tx1.length, .inl u28))] ++ fz) := hD
                have hK : va_K (dC, dI) vwCl [(cC, .char), (cB, .byte)] s := hK
                refine lv_iload_n hx hb d_CU_number_195 rfl (lv_at hl 2 rfl) ?_
                refine lv_if_eq (tgt := 203) hx hb d_CU_number_196 rfl (fun h9 => absurd h9 (by decide)) (fun _ => ?_)
                refine lv_lload_n hx hb d_CU_number_199 rfl (lv_at hl 1 rfl) ?_
                refine lv_goto (tgt := 205) hx hb d_CU_number_200 rfl ?_
                have hPc := hP.sub (ws' := [(z, .inr (3, [.int 0, .null, .long 0, .null, .null, .int 0, .int 0]))]) [2] rfl
                have hDc := hD.sub (ws' := [(z, .inr (3, [.int 0, .null, .long 0, .null, .null, .int 0, .int 0]))]) [2] (by decide) rfl
                have hFc := va_free (wc := [(z, .inr (3, [.int 0, .null, .long 0, .null, .null, .int 0, .int 0]))]) hD hS hA [2] rfl
                have hKc := hK.sub (tys' := []) [] rfl
                refine va_callv (va_runI (As := [.int 1, .ref ra31, .long (lI (-(v : Int)))]) (rest := [.ref z]) ⟨hx, hb, hml, hown, htb⟩ (k_VA_init l dC dI _ z 1 ra31 (lI (-(v : Int))) em aK aV ) (cwI 3 htb (g_all (fun _ h => h) m_373) rfl rfl rfl (htb _ m_18) (htb _ m_438) (htb _ m_372) rfl (by decide +kernel) ⟨Nat.le_of_ble_eq_true rfl, Nat.le_of_ble_eq_true rfl⟩) ⟨fun a U g mk q => by obtain ⟨q0, q1, qP, qK, qD, z0⟩ := q; exact ⟨q0, q1, qP, va_K.moved (u := U) (U := U.calling g mk a) (Vm.Alike.refl U.vm) qK, qD, EX.same (U := U) (U' := U.calling g mk a) rfl z0⟩, fun U hU hW => ⟨rfl, by rw [hU], by rw [hU]; exact hPc, va_K.moved hW.alike hKc, hDc.weaken (fun _ _ _ _ => trivial), by rw [hU]; exact EX.warm hW ((hE.kept (fun a h1 h2 => hS.2.1 a h1 h2)).narrow hFc)⟩⟩ rfl rfl hl.1 rfl (lv_room (Nat.le_of_ble_eq_true rfl)) d_CU_number_205 ⟨(by show ((((b - a) + 1) + 2) + 1) ≤ (4 + cns (L.drop a) (num (L.drop a))); omega), (by show ((((286 * (b - a)) + 7) + 164) + 3) ≤ (174 + 286 * cns (L.drop a) (num (L.drop a))); omega)⟩) hS (fun q _ h => hFc q h) hFc (fun u33 t H1 locs ht hvm hw35 hB hz1 hk1 hS => ?_)
                obtain ⟨x37, hP1, hK1, hD1⟩ := hB
                rw [ht] at hP1
                have hK1 := va_K.moved hvm.symm hK1
                have hw35 : True := hw35
                obtain ⟨hP, hD⟩ := zz_joinN (pre := [(x, .inr (1, [.ref dl, .int (nI L.length), .int (nI b), .ref sb])), (dl, .inl (cC, 160, .inl f)), (z, .inr (3, [.int 0, .null, .long 0, .null, .null, .int 0, .int 0])), (sb, .inr (13, [.ref bv1, .int 0, .int ml1, .int (nI tx1.length)])), (bv1, .inl (cB, cap1, .inl g1)), (ra31, .inr (15, [.ref x32, .int 0, .int 0, .int 0])), (x32, .inl (cB, tx1.length, .inl u28))]) (fz := fz) (wc := [(z, .inr (3, [.int 0, .null, .long 0, .null, .null, .int 0, .int 0]))]) (wr := [(x, .inr (1, [.ref dl, .int (nI L.length), .int (nI b), .ref sb])), (dl, .inl (cC, 160, .inl f)), (sb, .inr (13, [.ref bv1, .int 0, .int ml1, .int (nI tx1.length)])), (bv1, .inl (cB, cap1, .inl g1)), (ra31, .inr (15, [.ref x32, .int 0, .int 0, .int 0])), (x32, .inl (cB, tx1.length, .inl u28))]) (w1 := [(z, .inr (3, [.int 1, .ref ra31, .long (lI (-(v : Int))), .ref (aK 0), .ref x37, .int 0, .int 1])), (x37, .inr (14, [.ref em, .int 0, .int 0]))]) hP hD [2] [0, 1, 3, 4, 5, 6] rfl rfl (by decide) (by decide) hk1 hFc hP1 hD1
                have hK := (hK.sub (tys' := [(cC, .char), (cB, .byte)]) [0, 1] rfl).app hK1
                generalize H1 = H at hP hS ⊢
                have hP : va_P (dC, dI) vwCl ([(x, .inr (1, [.ref dl, .int (nI L.length), .int (nI b), .ref sb])), (dl, .inl (cC, 160, .inl f)), (sb, .inr (13, [.ref bv1, .int 0, .int ml1, .int (nI tx1.length)])), (bv1, .inl (cB, cap1, .inl g1)), (ra31, .inr (15, [.ref x32, .int 0, .int 0, .int 0])), (x32, .inl (cB, tx1.length, .inl u28)), (z, .inr (3, [.int 1, .ref ra31, .long (lI (-(v : Int))), .ref (aK 0), .ref x37, .int 0, .int 1])), (x37, .inr (14, [.ref em, .int 0, .int 0]))] ++ fz) H := hP
                have hD : va_D A ([(x, .inr (1, [.ref dl, .int (nI L.length), .int (nI b), .ref sb])), (dl, .inl (cC, 160, .inl f)), (sb, .inr (13, [.ref bv1, .int 0, .int ml1, .int (nI tx1.length)])), (bv1, .inl (cB, cap1, .inl g1)), (ra31, .inr (15, [.ref x32, .int 0, .int 0, .int 0])), (x32, .inl (cB, tx1.length, .inl u28)), (z, .inr (3, [.int 1, .ref ra31, .long (lI (-(v : Int))), .ref (aK 0), .ref x37, .int 0, .int 1])), (x37, .inr (14, [.ref em, .int 0, .int 0]))] ++ fz) := hD
                have hK : va_K (dC, dI) vwCl [(cC, .char), (cB, .byte)] s := hK
                have hdec : tx1 = dec (-(v : Int)) := (hi3 hk0).trans (dec_neg hv1).symm
                have hrng := nb_rng1 hi9
                have hP9 := zz_pickP (pre := [(x, .inr (1, [.ref dl, .int (nI L.length), .int (nI b), .ref sb])), (dl, .inl (cC, 160, .inl f)), (sb, .inr (13, [.ref bv1, .int 0, .int ml1, .int (nI tx1.length)])), (bv1, .inl (cB, cap1, .inl g1)), (ra31, .inr (15, [.ref x32, .int 0, .int 0, .int 0])), (x32, .inl (cB, tx1.length, .inl u28)), (z, .inr (3, [.int 1, .ref ra31, .long (lI (-(v : Int))), .ref (aK 0), .ref x37, .int 0, .int 1])), (x37, .inr (14, [.ref em, .int 0, .int 0]))]) (fz := fz) (wc := [(x, .inr (1, [.ref dl, .int (nI L.length), .int (nI b), .ref sb])), (dl, .inl (cC, 160, .inl f)), (sb, .inr (13, [.ref bv1, .int 0, .int ml1, .int (nI tx1.length)])), (bv1, .inl (cB, cap1, .inl g1)), (z, .inr (3, [.int 1, .ref ra31, .long (lI (-(v : Int))), .ref (aK 0), .ref x37, .int 0, .int 1])), (x37, .inr (14, [.ref em, .int 0, .int 0])), (ra31, .inr (15, [.ref x32, .int 0, .int 0, .int 0])), (x32, .inl (cB, tx1.length, .inl u28))]) hP [0, 1, 2, 3, 6, 7, 4, 5] rfl
                have hD9 := zz_pickD (pre := [(x, .inr (1, [.ref dl, .int (nI L.length), .int (nI b), .ref sb])), (dl, .inl (cC, 160, .inl f)), (sb, .inr (13, [.ref bv1, .int 0, .int ml1, .int (nI tx1.length)])), (bv1, .inl (cB, cap1, .inl g1)), (ra31, .inr (15, [.ref x32, .int 0, .int 0, .int 0])), (x32, .inl (cB, tx1.length, .inl u28)), (z, .inr (3, [.int 1, .ref ra31, .long (lI (-(v : Int))), .ref (aK 0), .ref x37, .int 0, .int 1])), (x37, .inr (14, [.ref em, .int 0, .int 0]))]) (fz := fz) (wc := [(x, .inr (1, [.ref dl, .int (nI L.length), .int (nI b), .ref sb])), (dl, .inl (cC, 160, .inl f)), (sb, .inr (13, [.ref bv1, .int 0, .int ml1, .int (nI tx1.length)])), (bv1, .inl (cB, cap1, .inl g1)), (z, .inr (3, [.int 1, .ref ra31, .long (lI (-(v : Int))), .ref (aK 0), .ref x37, .int 0, .int 1])), (x37, .inr (14, [.ref em, .int 0, .int 0])), (ra31, .inr (15, [.ref x32, .int 0, .int 0, .int 0])), (x32, .inl (cB, tx1.length, .inl u28))]) hD [0, 1, 2, 3, 6, 7, 4, 5] (by decide) rfl
                have hK9 := hK.sub (tys' := [(cC, .char), (cB, .byte)]) [0, 1] rfl
                rw [hQ]
                refine W.widen (k := (4 + cns (L.drop a) (num (L.drop a)))) (n := (174 + 286 * cns (L.drop a) (num (L.drop a)))) ((by show ((((b - a) + 1) + 2) + 1) ≤ (4 + cns (L.drop a) (num (L.drop a))); omega)) ((by show ((((286 * (b - a)) + 7) + 164) + 3) ≤ (174 + 286 * cns (L.drop a) (num (L.drop a))); omega)) ?_
                exact W.aret (v := .ref z) hx hb hr (Or.inl ⟨_, rfl⟩) (Or.inr ⟨_, rfl⟩) (fun t ht hW => ⟨⟨(some z), (b, ml1, tx1, cap1, g1, [(z, .inr (3, [.int 1, .ref ra31, .long (lI (-(v : Int))), .ref (aK 0), .ref x37, .int 0, .int 1])), (x37, .inr (14, [.ref em, .int 0, .int 0])), (ra31, .inr (15, [.ref x32, .int 0, .int 0, .int 0])), (x32, .inl (cB, tx1.length, .inl u28))]), rfl, ⟨hiB, by omega, by omega, Or.inr ⟨_, _, rfl, hsm, VT.scalar (a := z) (tx := ra31) (nm := aK 0) (pa := x37) (mo := 0) (tt := tx1) (nn := []) List.mem_cons_self (Or.inl ⟨x32, u28, List.mem_cons_of_mem _ (List.mem_cons_of_mem _ List.mem_cons_self), List.mem_cons_of_mem _ (List.mem_cons_of_mem _ (List.mem_cons_of_mem _ List.mem_cons_self)), fun i hi => by rw [hw30 i hi, hiB.2.2.1 i hi], hiB.2.2.2.2, by omega⟩) (Or.inr ⟨0, by decide, rfl, rfl⟩) (List.mem_cons_of_mem _ List.mem_cons_self) (nb_hd hdec hrng) (by decide)⟩⟩, ⟨bv1, by rw [ht]; exact hP9, va_K.moved hW.alike hK9, hD9⟩⟩, hS.F ht⟩) hS.2.2 d_CU_number_208
            · have hd1 : isDig (L.getD b 0) = true := bI_ne.mp (hw27 ▸ h2)
              have hd2 := isDig_iff.mp hd1
              have hd3 : L.getD b 0 - 48 < 10 := by omega
              have hall : num (L.drop a) = numF true (numD (L.drop b) v) := by
                by_cases hk0 : k = 0
                · have hbb : b = (a + 1) := by omega
                  rw [hnum, ← hbb, hd1, hi5 hk0]; rfl
                · exact hi2 hk0
              refine lv_aload_n hx hb d_CU_number_81 rfl (lv_at hl 3 rfl) ?_
              refine va_get (D := (dC, dI)) (ci := 1) (v := .ref dl) (C := R_CU) (T := T_CU) (N := 4) hx hb htb in_CU hown hK hP 0 rfl rfl 0 (by decide) (htb _ m_142) (fun _ h9 => h9) rfl d_CU_number_82 ?_
              refine lv_aload_n hx hb d_CU_number_85 rfl (lv_at hl 3 rfl) ?_
              refine va_get (D := (dC, dI)) (ci := 1) (v := .int (nI b)) (C := R_CU) (T := T_CU) (N := 4) hx hb htb in_CU hown hK hP 0 rfl rfl 2 (by decide) (htb _ m_144) (fun _ h9 => h9) rfl d_CU_number_86 ?_
              refine va_cald hx hb hK hP 1 0 rfl rfl (vp_in_nI (by omega) (by omega)) d_CU_number_89 ?_
              refine W.eq (congrArg (fun z => F0 m 90 ls (.int z :: [])) (by rw [nI_clamp (by omega)]; exact hL.2.2 _ h1 : (f (nI b).toNatClampNeg) = nI (L.getD b 0))) ?_
              refine lv_bipush (v := 48) hx hb d_CU_number_90 (by decide) ?_
              refine lv_isub hx hb d_CU_number_92 ?_
              refine W.eq (congrArg (fun z => F0 m 93 ls (.int z :: [])) (pk_sub (a := L.getD b 0) (b := 48) (by omega) : ((nI (L.getD b 0)) - 48) = nI (L.getD b 0 - 48))) ?_
              refine lv_istore hx hb d_CU_number_93 hl (by decide) rfl (fun ls hl => ?_)
              have hl : lv_has ls 6 [(5, .int (nI (L.getD b 0 - 48))), (4, .int (nI k)), (2, .long (lI (-(v : Int)))), (1, .int 1), (0, .ref x)] := hl
              refine lv_lload_n hx hb d_CU_number_95 rfl (lv_at hl 2 rfl) ?_
              refine lv_ldc2 (v := (-922337203685477580)) hx hb hown (htb _ m_439) d_CU_number_96 ?_
              refine W.lcmp hx hb d_CU_number_99 ?_
              have hk9z : k = 0 → L.getD b 0 ≠ 48 := fun hk0 h => g12 (by rw [show a + 1 = b by omega]; exact h)
              refine lv_if_lt (tgt := 119) hx hb d_CU_number_100 rfl (fun h3 => ?_) (fun h3 => ?_)
              · have hbig : 2 ^ 63 < 10 * v + (L.getD b 0 - 48) := nb_big1 _ hi9 h3
                have hno : num (L.drop a) = none := by rw [hall, drop_cons h1, numD_big hd1 hbig]; rfl
                have hcs : cns (L.drop a) (num (L.drop a)) = L.length - a := by rw [hno]; exact hlen
                refine lv_null hx hb d_CU_number_119 ?_
                have hP9 := zz_pickP (pre := [(x, .inr (1, [.ref dl, .int (nI L.length), .int (nI b), .ref sb])), (dl, .inl (cC, 160, .inl f)), (sb, .inr (13, [.ref bv1, .int 0, .int ml1, .int (nI tx1.length)])), (bv1, .inl (cB, cap1, .inl g1))]) (fz := fz) (wc := [(x, .inr (1, [.ref dl, .int (nI L.length), .int (nI b), .ref sb])), (dl, .inl (cC, 160, .inl f)), (sb, .inr (13, [.ref bv1, .int 0, .int ml1, .int (nI tx1.length)])), (bv1, .inl (cB, cap1, .inl g1))]) hP [0, 1, 2, 3] rfl
                have hD9 := zz_pickD (pre := [(x, .inr (1, [.ref dl, .int (nI L.length), .int (nI b), .ref sb])), (dl, .inl (cC, 160, .inl f)), (sb, .inr (13, [.ref bv1, .int 0, .int ml1, .int (nI tx1.length)])), (bv1, .inl (cB, cap1, .inl g1))]) (fz := fz) (wc := [(x, .inr (1, [.ref dl, .int (nI L.length), .int (nI b), .ref sb])), (dl, .inl (cC, 160, .inl f)), (sb, .inr (13, [.ref bv1, .int 0, .int ml1, .int (nI tx1.length)])), (bv1, .inl (cB, cap1, .inl g1))]) hD [0, 1, 2, 3] (by decide) rfl
                have hK9 := hK.sub (tys' := [(cC, .char), (cB, .byte)]) [0, 1] rfl
                rw [hQ]
                refine W.widen (k := (4 + cns (L.drop a) (num (L.drop a)))) (n := (174 + 286 * cns (L.drop a) (num (L.drop a)))) ((by show (b - a) ≤ (4 + cns (L.drop a) (num (L.drop a))); omega)) ((by show (286 * (b - a)) ≤ (174 + 286 * cns (L.drop a) (num (L.drop a))); omega)) ?_
                exact W.aret (v := .null) hx hb hr (Or.inl ⟨_, rfl⟩) (Or.inl rfl) (fun t ht hW => ⟨⟨none, (b, ml1, tx1, cap1, g1, []), rfl, ⟨hiB, by omega, by omega, Or.inl ⟨rfl, hno, rfl⟩⟩, ⟨bv1, by rw [ht]; exact hP9, va_K.moved hW.alike hK9, hD9⟩⟩, hS.F ht⟩) hS.2.2 d_CU_number_120
              · have h3 : v ≤ 922337203685477580 := nb_ok1 hi9 h3
                refine lv_lload_n hx hb d_CU_number_103 rfl (lv_at hl 2 rfl) ?_
                refine lv_ldc2 (v := 10) hx hb hown (htb _ m_440) d_CU_number_104 ?_
                refine lv_lmul hx hb d_CU_number_107 ?_
                refine W.eq (congrArg (fun z99 => F0 m 108 ls (.long z99 :: [])) (nb_mul v : ((lI (-(v : Int))) * 10) = lI (-((10 * v : Nat) : Int)))) ?_
                refine lv_ldc2 (v := (-9223372036854775808)) hx hb hown (htb _ m_441) d_CU_number_108 ?_
                refine lv_iload hx hb d_CU_number_111 (lv_at hl 0 rfl) ?_
                refine lv_i2l hx hb d_CU_number_113 rfl ?_
                refine lv_ladd hx hb d_CU_number_114 ?_
                refine W.eq (congrArg (fun z99 => F0 m 115 ls (.long z99 :: [.long (lI (-((10 * v : Nat) : Int)))])) (nb_add hd3 : ((-9223372036854775808) + ((nI (L.getD b 0 - 48)).toInt64)) = lI (-9223372036854775808 + ((L.getD b 0 - 48 : Nat) : Int)))) ?_
                refine W.lcmp hx hb d_CU_number_115 ?_
                refine lv_if_ge (tgt := 121) hx hb d_CU_number_116 rfl (fun h4 => ?_) (fun h4 => ?_)
                · have h4 : 10 * v + (L.getD b 0 - 48) ≤ 2 ^ 63 := nb_ok2 h3 hd3 h4
                  have hnx : num (L.drop a) = numF true (numD (L.drop (b + 1)) (10 * v + (L.getD b 0 - 48))) := by rw [hall, drop_cons h1, numD_dig hd1 h4]
                  have hcs := cns_num (mi := true) (R0 := L.drop a) (R := L.drop (b + 1)) (v := 10 * v + (L.getD b 0 - 48)) (by omega)
                  rw [← hnx, hlen, hlb] at hcs
                  refine lv_lload_n hx hb d_CU_number_121 rfl (lv_at hl 2 rfl) ?_
                  refine lv_ldc2 (v := 10) hx hb hown (htb _ m_440) d_CU_number_122 ?_
                  refine lv_lmul hx hb d_CU_number_125 ?_
                  refine W.eq (congrArg (fun z99 => F0 m 126 ls (.long z99 :: [])) (nb_mul v : ((lI (-(v : Int))) * 10) = lI (-((10 * v : Nat) : Int)))) ?_
                  refine lv_iload hx hb d_CU_number_126 (lv_at hl 0 rfl) ?_
                  refine lv_i2l hx hb d_CU_number_128 rfl ?_
                  refine lv_lsub hx hb d_CU_number_129 ?_
                  refine W.eq (congrArg (fun z99 => F0 m 130 ls (.long z99 :: [])) (nb_sub hd3 : ((lI (-((10 * v : Nat) : Int))) - ((nI (L.getD b 0 - 48)).toInt64)) = lI (-((10 * v + (L.getD b 0 - 48) : Nat) : Int)))) ?_
                  refine lv_lstore_n hx hb d_CU_number_130 rfl hl (by decide) rfl (fun ls hl => ?_)
                  have hl : lv_has ls 6 [(2, .long (lI (-((10 * v + (L.getD b 0 - 48) : Nat) : Int)))), (5, .int (nI (L.getD b 0 - 48))), (4, .int (nI k)), (1, .int 1), (0, .ref x)] := hl
                  refine lv_aload_n hx hb d_CU_number_131 rfl (lv_at hl 4 rfl) ?_
                  refine va_get (D := (dC, dI)) (ci := 1) (v := .ref sb) (C := R_CU) (T := T_CU) (N := 4) hx hb htb in_CU hown hK hP 0 rfl rfl 3 (by decide) (htb _ m_145) (fun _ h9 => h9) rfl d_CU_number_132 ?_
                  refine lv_aload_n hx hb d_CU_number_135 rfl (lv_at hl 4 rfl) ?_
                  refine va_get (D := (dC, dI)) (ci := 1) (v := .ref dl) (C := R_CU) (T := T_CU) (N := 4) hx hb htb in_CU hown hK hP 0 rfl rfl 0 (by decide) (htb _ m_142) (fun _ h9 => h9) rfl d_CU_number_136 ?_
                  refine lv_aload_n hx hb d_CU_number_139 rfl (lv_at hl 4 rfl) ?_
                  refine va_get (D := (dC, dI)) (ci := 1) (v := .int (nI b)) (C := R_CU) (T := T_CU) (N := 4) hx hb htb in_CU hown hK hP 0 rfl rfl 2 (by decide) (htb _ m_144) (fun _ h9 => h9) rfl d_CU_number_140 ?_
                  refine va_cald hx hb hK hP 1 0 rfl rfl (vp_in_nI (by omega) (by omega)) d_CU_number_143 ?_
                  refine W.eq (congrArg (fun z => F0 m 144 ls (.int z :: [.ref sb])) (by rw [nI_clamp (by omega)]; exact hL.2.2 _ h1 : (f (nI b).toNatClampNeg) = nI (L.getD b 0))) ?_
                  have hPc := hP.sub (ws' := [(sb, .inr (13, [.ref bv1, .int 0, .int ml1, .int (nI tx1.length)])), (bv1, .inl (cB, cap1, .inl g1))]) [2, 3] rfl
                  have hDc := hD.sub (ws' := [(sb, .inr (13, [.ref bv1, .int 0, .int ml1, .int (nI tx1.length)])), (bv1, .inl (cB, cap1, .inl g1))]) [2, 3] (by decide) rfl
                  have hFc := va_free (wc := [(sb, .inr (13, [.ref bv1, .int 0, .int ml1, .int (nI tx1.length)])), (bv1, .inl (cB, cap1, .inl g1))]) hD hS hA [2, 3] rfl
                  have hKc := hK.sub (tys' := [(cB, .byte)]) [1] rfl
                  refine va_callr (va_runV (As := [.int (nI (L.getD b 0))]) (rest := []) ⟨hx, hb, hml, hown, htb⟩ (k_SB_append l dC dI _ sb bv1 ml1 cB g1 cap1 tx1 (L.getD b 0) em aK aV hiB (by omega) (by omega)) (cwV 1 htb (g_V (fun _ h => h) m_337 m_334 m_335 m_336 m_3) rfl rfl rfl (by decide +kernel) ⟨Nat.le_of_ble_eq_true rfl, Nat.le_of_ble_eq_true rfl⟩) ⟨fun a U g mk q => by obtain ⟨q0, q1, qP, qK, qD, z0⟩ := q; exact ⟨q0, q1, qP, va_K.moved (u := U) (U := U.calling g mk a) (Vm.Alike.refl U.vm) qK, qD, EX.same (U := U) (U' := U.calling g mk a) rfl z0⟩, va_recv hK hP (ci := 13) rfl (q0 := 2) rfl, fun U hU hW => ⟨rfl, by rw [hU], by rw [hU]; exact hPc, va_K.moved hW.alike hKc, hDc.weaken (fun _ _ _ _ => trivial), by rw [hU]; exact EX.warm hW ((hE.kept (fun a h1 h2 => hS.2.1 a h1 h2)).narrow hFc)⟩⟩ rfl rfl hl.1 rfl (lv_room (Nat.le_of_ble_eq_true rfl)) d_CU_number_144 ⟨(by show ((b - a) + 1) ≤ (4 + cns (L.drop a) (num (L.drop a))); omega), (by show ((286 * (b - a)) + 286) ≤ (174 + 286 * cns (L.drop a) (num (L.drop a))); omega)⟩) hS (fun q _ h => hFc q h) hFc (fun u28 ra31 t H1 locs ht hvm hw30 hB hz1 hk1 hS => ?_)
                  obtain ⟨x32, hP1, hK1, hD1⟩ := hB
                  rw [ht] at hP1
                  have hK1 := va_K.moved hvm.symm hK1
                  obtain ⟨w33, w34⟩ := u28
                  have hw30 : Bld (tx1 ++ [(L.getD b 0)]) w33 w34 := hw30
                  obtain ⟨hP, hD⟩ := zz_joinN (pre := [(x, .inr (1, [.ref dl, .int (nI L.length), .int (nI b), .ref sb])), (dl, .inl (cC, 160, .inl f)), (sb, .inr (13, [.ref bv1, .int 0, .int ml1, .int (nI tx1.length)])), (bv1, .inl (cB, cap1, .inl g1))]) (fz := fz) (wc := [(sb, .inr (13, [.ref bv1, .int 0, .int ml1, .int (nI tx1.length)])), (bv1, .inl (cB, cap1, .inl g1))]) (wr := [(x, .inr (1, [.ref dl, .int (nI L.length), .int (nI b), .ref sb])), (dl, .inl (cC, 160, .inl f))]) (w1 := [(sb, .inr (13, [.ref x32, .int 0, .int ml1, .int (nI (tx1 ++ [(L.getD b 0)]).length)])), (x32, .inl (cB, w33, .inl w34))]) hP hD [2, 3] [0, 1] rfl rfl (by decide) (by decide) hk1 hFc hP1 hD1
                  have hK := (hK.sub (tys' := [(cC, .char)]) [0] rfl).app hK1
                  generalize H1 = H at hP hS ⊢
                  have hP : va_P (dC, dI) vwCl ([(x, .inr (1, [.ref dl, .int (nI L.length), .int (nI b), .ref sb])), (dl, .inl (cC, 160, .inl f)), (sb, .inr (13, [.ref x32, .int 0, .int ml1, .int (nI (tx1 ++ [(L.getD b 0)]).length)])), (x32, .inl (cB, w33, .inl w34))] ++ fz) H := hP
                  have hD : va_D A ([(x, .inr (1, [.ref dl, .int (nI L.length), .int (nI b), .ref sb])), (dl, .inl (cC, 160, .inl f)), (sb, .inr (13, [.ref x32, .int 0, .int ml1, .int (nI (tx1 ++ [(L.getD b 0)]).length)])), (x32, .inl (cB, w33, .inl w34))] ++ fz) := hD
                  have hK : va_K (dC, dI) vwCl [(cC, .char), (cB, .byte)] s := hK
                  refine lv_pop hx hb d_CU_number_147 rfl ?_
                  refine lv_iinc (k := 2) (v := ((nI k) + Int32.ofInt 1)) hx hb d_CU_number_148 hl rfl rfl (by decide) rfl (fun ls hl => ?_)
                  have hl : lv_has ls 6 [(4, .int ((nI k) + Int32.ofInt 1)), (2, .long (lI (-((10 * v + (L.getD b 0 - 48) : Nat) : Int)))), (5, .int (nI (L.getD b 0 - 48))), (1, .int 1), (0, .ref x)] := hl
                  rw [show nI k + Int32.ofInt 1 = nI (k + 1) from nI_1 _] at hl
                  refine lv_aload_n hx hb d_CU_number_151 rfl (lv_at hl 4 rfl) ?_
                  refine lv_dup hx hb d_CU_number_152 rfl ?_
                  refine va_get (D := (dC, dI)) (ci := 1) (v := .int (nI b)) (C := R_CU) (T := T_CU) (N := 4) hx hb htb in_CU hown hK hP 0 rfl rfl 2 (by decide) (htb _ m_144) (fun _ h9 => h9) rfl d_CU_number_153 ?_
                  refine lv_iconst (v := 1) hx hb d_CU_number_156 (by decide) ?_
                  refine lv_iadd hx hb d_CU_number_157 ?_
                  refine W.eq (congrArg (fun z => F0 m 158 ls (.int z :: [.ref x])) (nI_1 _ : ((nI b) + 1) = nI (b + 1))) ?_
                  refine va_put (D := (dC, dI)) (ci := 1) (v := .int (nI (b + 1))) (ty := .int) (C := R_CU) (T := T_CU) (N := 4) hx hb htb in_CU ty_CU ty_CU_ok nm_CU hown hK hP hD hS 0 rfl rfl 2 (by decide) (htb _ m_144) (fun _ h9 => h9) rfl (by decide +kernel) rfl rfl (Nat.le_of_ble_eq_true rfl) d_CU_number_158 (fun H locs hP hD hS => ?_)
                  have hP : va_P (dC, dI) vwCl ([(x, .inr (1, [.ref dl, .int (nI L.length), .int (nI (b + 1)), .ref sb])), (dl, .inl (cC, 160, .inl f)), (sb, .inr (13, [.ref x32, .int 0, .int ml1, .int (nI (tx1 ++ [(L.getD b 0)]).length)])), (x32, .inl (cB, w33, .inl w34))] ++ fz) H := hP
                  have hD : va_D A ([(x, .inr (1, [.ref dl, .int (nI L.length), .int (nI (b + 1)), .ref sb])), (dl, .inl (cC, 160, .inl f)), (sb, .inr (13, [.ref x32, .int 0, .int ml1, .int (nI (tx1 ++ [(L.getD b 0)]).length)])), (x32, .inl (cB, w33, .inl w34))] ++ fz) := hD
                  refine lv_goto (tgt := 55) hx hb d_CU_number_161 rfl ?_
                  refine W.widen (k := ((b + 1) - a)) (n := (286 * ((b + 1) - a))) (by omega) (by omega) ?_
                  exact ih (L.length - (b + 1)) (by omega) (b + 1) x32 ml1 w33 w34 (tx1 ++ [L.getD b 0]) (k + 1) (10 * v + (L.getD b 0 - 48)) H locs ls rfl (by omega) (by omega) (hw30) (fun _ => hnx) (fun _ => num_text hi3 hi5 hi6 hd2 hk9z hi4) (fun _ => by by_cases hk0 : k = 0; have := hi5 hk0; have := hk9z hk0; omega; have := hi4 hk0; omega) (fun h => absurd h (Nat.succ_ne_zero _)) (fun h => absurd h (Nat.succ_ne_zero _)) (by omega) (by simp; omega) (by omega) (by omega) (lv_sub hl [0, 1, 3, 4] rfl) (zz_pickP (pre := [(x, .inr (1, [.ref dl, .int (nI L.length), .int (nI (b + 1)), .ref sb])), (dl, .inl (cC, 160, .inl f)), (sb, .inr (13, [.ref x32, .int 0, .int ml1, .int (nI (tx1 ++ [(L.getD b 0)]).length)])), (x32, .inl (cB, w33, .inl w34))]) (fz := fz) (wc := [(x, .inr (1, [.ref dl, .int (nI L.length), .int (nI (b + 1)), .ref sb])), (dl, .inl (cC, 160, .inl f)), (sb, .inr (13, [.ref x32, .int 0, .int ml1, .int (nI (tx1 ++ [L.getD b 0]).length)])), (x32, .inl (cB, w33, .inl w34))]) hP [0, 1, 2, 3] rfl) (zz_pickD (pre := [(x, .inr (1, [.ref dl, .int (nI L.length), .int (nI (b + 1)), .ref sb])), (dl, .inl (cC, 160, .inl f)), (sb, .inr (13, [.ref x32, .int 0, .int ml1, .int (nI (tx1 ++ [(L.getD b 0)]).length)])), (x32, .inl (cB, w33, .inl w34))]) (fz := fz) (wc := [(x, .inr (1, [.ref dl, .int (nI L.length), .int (nI (b + 1)), .ref sb])), (dl, .inl (cC, 160, .inl f)), (sb, .inr (13, [.ref x32, .int 0, .int ml1, .int (nI (tx1 ++ [L.getD b 0]).length)])), (x32, .inl (cB, w33, .inl w34))]) hD [0, 1, 2, 3] (by decide) rfl) hS
                · have hbig : 2 ^ 63 < 10 * v + (L.getD b 0 - 48) := nb_big2 h3 hd3 h4
                  have hno : num (L.drop a) = none := by rw [hall, drop_cons h1, numD_big hd1 hbig]; rfl
                  have hcs : cns (L.drop a) (num (L.drop a)) = L.length - a := by rw [hno]; exact hlen
                  refine lv_null hx hb d_CU_number_119 ?_
                  have hP9 := zz_pickP (pre := [(x, .inr (1, [.ref dl, .int (nI L.length), .int (nI b), .ref sb])), (dl, .inl (cC, 160, .inl f)), (sb, .inr (13, [.ref bv1, .int 0, .int ml1, .int (nI tx1.length)])), (bv1, .inl (cB, cap1, .inl g1))]) (fz := fz) (wc := [(x, .inr (1, [.ref dl, .int (nI L.length), .int (nI b), .ref sb])), (dl, .inl (cC, 160, .inl f)), (sb, .inr (13, [.ref bv1, .int 0, .int ml1, .int (nI tx1.length)])), (bv1, .inl (cB, cap1, .inl g1))]) hP [0, 1, 2, 3] rfl
                  have hD9 := zz_pickD (pre := [(x, .inr (1, [.ref dl, .int (nI L.length), .int (nI b), .ref sb])), (dl, .inl (cC, 160, .inl f)), (sb, .inr (13, [.ref bv1, .int 0, .int ml1, .int (nI tx1.length)])), (bv1, .inl (cB, cap1, .inl g1))]) (fz := fz) (wc := [(x, .inr (1, [.ref dl, .int (nI L.length), .int (nI b), .ref sb])), (dl, .inl (cC, 160, .inl f)), (sb, .inr (13, [.ref bv1, .int 0, .int ml1, .int (nI tx1.length)])), (bv1, .inl (cB, cap1, .inl g1))]) hD [0, 1, 2, 3] (by decide) rfl
                  have hK9 := hK.sub (tys' := [(cC, .char), (cB, .byte)]) [0, 1] rfl
                  rw [hQ]
                  refine W.widen (k := (4 + cns (L.drop a) (num (L.drop a)))) (n := (174 + 286 * cns (L.drop a) (num (L.drop a)))) ((by show (b - a) ≤ (4 + cns (L.drop a) (num (L.drop a))); omega)) ((by show (286 * (b - a)) ≤ (174 + 286 * cns (L.drop a) (num (L.drop a))); omega)) ?_
                  exact W.aret (v := .null) hx hb hr (Or.inl ⟨_, rfl⟩) (Or.inl rfl) (fun t ht hW => ⟨⟨none, (b, ml1, tx1, cap1, g1, []), rfl, ⟨hiB, by omega, by omega, Or.inl ⟨rfl, hno, rfl⟩⟩, ⟨bv1, by rw [ht]; exact hP9, va_K.moved hW.alike hK9, hD9⟩⟩, hS.F ht⟩) hS.2.2 d_CU_number_120
      refine W.widen (k := ((a + 1) - a)) (n := (286 * ((a + 1) - a))) (by omega) (by omega) ?_
      exact hloop _ (a + 1) x23 u15 w24 w25 ([45]) 0 0 _ _ ls rfl (Nat.le_refl _) (by omega) (hw21) (fun h => absurd rfl h) (fun h => absurd rfl h) (fun h => absurd rfl h) (fun _ => rfl) (fun _ => rfl) (by omega) (by simp) (by decide) (by omega) (lv_sub hl [0, 1, 2, 3] rfl) (zz_pickP (pre := [(x, .inr (1, [.ref dl, .int (nI L.length), .int (nI (a + 1)), .ref sb])), (dl, .inl (cC, 160, .inl f)), (sb, .inr (13, [.ref x23, .int 0, .int u15, .int (nI (([] : List Nat) ++ [45]).length)])), (x23, .inl (cB, w24, .inl w25))]) (fz := fz) (wc := [(x, .inr (1, [.ref dl, .int (nI L.length), .int (nI (a + 1)), .ref sb])), (dl, .inl (cC, 160, .inl f)), (sb, .inr (13, [.ref x23, .int 0, .int u15, .int (nI ([45]).length)])), (x23, .inl (cB, w24, .inl w25))]) hP [0, 1, 2, 3] rfl) (zz_pickD (pre := [(x, .inr (1, [.ref dl, .int (nI L.length), .int (nI (a + 1)), .ref sb])), (dl, .inl (cC, 160, .inl f)), (sb, .inr (13, [.ref x23, .int 0, .int u15, .int (nI (([] : List Nat) ++ [45]).length)])), (x23, .inl (cB, w24, .inl w25))]) (fz := fz) (wc := [(x, .inr (1, [.ref dl, .int (nI L.length), .int (nI (a + 1)), .ref sb])), (dl, .inl (cC, 160, .inl f)), (sb, .inr (13, [.ref x23, .int 0, .int u15, .int (nI ([45]).length)])), (x23, .inl (cB, w24, .inl w25))]) hD [0, 1, 2, 3] (by decide) rfl) hS
  · rw [hab7] at hP hD
    have hP : va_P (dC, dI) vwCl ([(sb, .inr (13, [.ref bv, .int 0, .int ml, .int (nI tx.length)])), (bv, .inl (cB, cap, .inl g)), (x, .inr (1, [.ref dl, .int (nI L.length), .int (nI a), .ref sb])), (dl, .inl (cC, 160, .inl f))] ++ fz) H := hP
    have hD : va_D A ([(sb, .inr (13, [.ref bv, .int 0, .int ml, .int (nI tx.length)])), (bv, .inl (cB, cap, .inl g)), (x, .inr (1, [.ref dl, .int (nI L.length), .int (nI a), .ref sb])), (dl, .inl (cC, 160, .inl f))] ++ fz) := hD
    have hmi : ¬ L.getD a 0 = 45 := g5
    refine lv_istore_n hx hb d_CU_number_6 rfl hl (by decide) rfl (fun ls hl => ?_)
    have hl : lv_has ls 6 [(1, .int 0), (0, .ref x)] := hl
    refine lv_aload_n hx hb d_CU_number_7 rfl (lv_at hl 1 rfl) ?_
    refine lv_bipush (v := 48) hx hb d_CU_number_8 (by decide) ?_
    have hPc := hP.sub (ws' := [(x, .inr (1, [.ref dl, .int (nI L.length), .int (nI a), .ref sb])), (dl, .inl (cC, 160, .inl f))]) [2, 3] rfl
    have hDc := hD.sub (ws' := [(x, .inr (1, [.ref dl, .int (nI L.length), .int (nI a), .ref sb])), (dl, .inl (cC, 160, .inl f))]) [2, 3] (by decide) rfl
    have hFc := va_free (wc := [(x, .inr (1, [.ref dl, .int (nI L.length), .int (nI a), .ref sb])), (dl, .inl (cC, 160, .inl f))]) hD hS hA [2, 3] rfl
    have hKc := hK.sub (tys' := [(cC, .char)]) [1] rfl
    refine va_calli (va_runV (As := [.int (nI 48)]) (rest := []) ⟨hx, hb, hml, hown, htb⟩ (k_CU_took l dC dI _ x dl sb cC f L a 48 hL (by omega) (by omega) (by omega)) (cwV 1 htb (g_V (fun _ h => h) m_435 m_432 m_433 m_434 m_10) rfl rfl rfl (by decide +kernel) ⟨Nat.le_of_ble_eq_true rfl, Nat.le_of_ble_eq_true rfl⟩) ⟨fun a U g mk q => by obtain ⟨q0, q1, qP, qK, qD⟩ := q; exact ⟨q0, q1, qP, va_K.moved (u := U) (U := U.calling g mk a) (Vm.Alike.refl U.vm) qK, qD⟩, va_recv hK hP (ci := 1) rfl (q0 := 2) rfl, fun U hU hW => ⟨rfl, by rw [hU], by rw [hU]; exact hPc, va_K.moved hW.alike hKc, hDc.weaken (fun _ _ _ _ => trivial)⟩⟩ rfl rfl hl.1 rfl (lv_room (Nat.le_of_ble_eq_true rfl)) d_CU_number_10 ⟨(by show 0 ≤ (4 + cns (L.drop a) (num (L.drop a))); omega), (by show 0 ≤ (174 + 286 * cns (L.drop a) (num (L.drop a))); omega)⟩) hS (fun q _ h => hFc q h) hFc (fun r9 u8 t H1 locs ht hvm hw10 hB hz1 hk1 hS => ?_)
    obtain ⟨hP1, hK1, hD1⟩ := hB
    rw [ht] at hP1
    have hK1 := va_K.moved hvm.symm hK1
    have hw10 : (r9 = 1 ∧ L.getD a 0 = 48 ∧ a < L.length ∧ u8 = a + 1) ∨ (r9 = 0 ∧ L.getD a 0 ≠ 48 ∧ u8 = a) := hw10
    obtain ⟨hP, hD⟩ := zz_joinN (pre := [(sb, .inr (13, [.ref bv, .int 0, .int ml, .int (nI tx.length)])), (bv, .inl (cB, cap, .inl g)), (x, .inr (1, [.ref dl, .int (nI L.length), .int (nI a), .ref sb])), (dl, .inl (cC, 160, .inl f))]) (fz := fz) (wc := [(x, .inr (1, [.ref dl, .int (nI L.length), .int (nI a), .ref sb])), (dl, .inl (cC, 160, .inl f))]) (wr := [(sb, .inr (13, [.ref bv, .int 0, .int ml, .int (nI tx.length)])), (bv, .inl (cB, cap, .inl g))]) (w1 := [(x, .inr (1, [.ref dl, .int (nI L.length), .int (nI u8), .ref sb])), (dl, .inl (cC, 160, .inl f))]) hP hD [2, 3] [0, 1] rfl rfl (by decide) (by decide) hk1 hFc hP1 hD1
    have hK := (hK.sub (tys' := [(cB, .byte)]) [0] rfl).app hK1
    generalize H1 = H at hP hS ⊢
    have hP : va_P (dC, dI) vwCl ([(sb, .inr (13, [.ref bv, .int 0, .int ml, .int (nI tx.length)])), (bv, .inl (cB, cap, .inl g)), (x, .inr (1, [.ref dl, .int (nI L.length), .int (nI u8), .ref sb])), (dl, .inl (cC, 160, .inl f))] ++ fz) H := hP
    have hD : va_D A ([(sb, .inr (13, [.ref bv, .int 0, .int ml, .int (nI tx.length)])), (bv, .inl (cB, cap, .inl g)), (x, .inr (1, [.ref dl, .int (nI L.length), .int (nI u8), .ref sb])), (dl, .inl (cC, 160, .inl f))] ++ fz) := hD
    have hK : va_K (dC, dI) vwCl [(cB, .byte), (cC, .char)] s := hK
    rcases hw10 with ⟨rfl, g12, g13, hab14⟩ | ⟨rfl, g12, hab14⟩
    · rw [hab14] at hP hD
      have hP : va_P (dC, dI) vwCl ([(sb, .inr (13, [.ref bv, .int 0, .int ml, .int (nI tx.length)])), (bv, .inl (cB, cap, .inl g)), (x, .inr (1, [.ref dl, .int (nI L.length), .int (nI (a + 1)), .ref sb])), (dl, .inl (cC, 160, .inl f))] ++ fz) H := hP
      have hD : va_D A ([(sb, .inr (13, [.ref bv, .int 0, .int ml, .int (nI tx.length)])), (bv, .inl (cB, cap, .inl g)), (x, .inr (1, [.ref dl, .int (nI L.length), .int (nI (a + 1)), .ref sb])), (dl, .inl (cC, 160, .inl f))] ++ fz) := hD
      have hh0 : hd0 (L.drop (a)) = 48 := drop_head.trans g12
      have hsm : num (L.drop a) = some (0, L.drop (a + 1)) := by
        rw [num, if_neg (fun h => hmi (hha.symm.trans h)), numR, if_pos hh0, List.drop_drop]
      refine lv_if_eq (tgt := 28) hx hb d_CU_number_13 rfl (fun h9 => absurd h9 (by decide)) (fun _ => ?_)
      refine va_new (ci := 3) (fs := [.int 0, .null, .long 0, .null, .null, .int 0, .int 0]) (C := R_VA) (T := T_VA) (N := 7) hx hb htb in_VA ty_VA ty_VA_ok hown (htb _ m_436) (htb _ m_370) (htb _ m_18) hK hP hD hS hA rfl (fun j hj => by rcases (show j = 0 ∨ j = 1 ∨ j = 2 ∨ j = 3 ∨ j = 4 ∨ j = 5 ∨ j = 6 by omega) with rfl | rfl | rfl | rfl | rfl | rfl | rfl <;> rfl) ((by show 1 ≤ (4 + cns (L.drop a) (num (L.drop a))); omega)) ((by show 7 ≤ (174 + 286 * cns (L.drop a) (num (L.drop a))); omega)) d_CU_number_16 (fun z H hP hD hS => ?_)
      have hP := zz_rotP (pre := [(sb, .inr (13, [.ref bv, .int 0, .int ml, .int (nI tx.length)])), (bv, .inl (cB, cap, .inl g)), (x, .inr (1, [.ref dl, .int (nI L.length), .int (nI (a + 1)), .ref sb])), (dl, .inl (cC, 160, .inl f))]) (fz := fz) hP
      have hD := zz_rotD (pre := [(sb, .inr (13, [.ref bv, .int 0, .int ml, .int (nI tx.length)])), (bv, .inl (cB, cap, .inl g)), (x, .inr (1, [.ref dl, .int (nI L.length), .int (nI (a + 1)), .ref sb])), (dl, .inl (cC, 160, .inl f))]) (fz := fz) hD
      have hP : va_P (dC, dI) vwCl ([(sb, .inr (13, [.ref bv, .int 0, .int ml, .int (nI tx.length)])), (bv, .inl (cB, cap, .inl g)), (x, .inr (1, [.ref dl, .int (nI L.length), .int (nI (a + 1)), .ref sb])), (dl, .inl (cC, 160, .inl f)), (z, .inr (3, [.int 0, .null, .long 0, .null, .null, .int 0, .int 0]))] ++ fz) H := hP
      have hD : va_D A ([(sb, .inr (13, [.ref bv, .int 0, .int ml, .int (nI tx.length)])), (bv, .inl (cB, cap, .inl g)), (x, .inr (1, [.ref dl, .int (nI L.length), .int (nI (a + 1)), .ref sb])), (dl, .inl (cC, 160, .inl f)), (z, .inr (3, [.int 0, .null, .long 0, .null, .null, .int 0, .int 0]))] ++ fz) := hD
      refine W.widen (k := 1) (n := 7) (Nat.le_of_ble_eq_true rfl) (Nat.le_of_ble_eq_true rfl) ?_
      refine lv_dup hx hb d_CU_number_19 rfl ?_
      refine lv_iconst (v := 1) hx hb d_CU_number_20 (by decide) ?_
      refine va_ldcS hx hb hown (lr_1 hE) d_CU_number_21 ?_
      refine lv_lconst (v := 0) hx hb d_CU_number_23 (by decide) ?_
      have hPc := hP.sub (ws' := [(z, .inr (3, [.int 0, .null, .long 0, .null, .null, .int 0, .int 0]))]) [4] rfl
      have hDc := hD.sub (ws' := [(z, .inr (3, [.int 0, .null, .long 0, .null, .null, .int 0, .int 0]))]) [4] (by decide) rfl
      have hFc := va_free (wc := [(z, .inr (3, [.int 0, .null, .long 0, .null, .null, .int 0, .int 0]))]) hD hS hA [4] rfl
      have hKc := hK.sub (tys' := []) [] rfl
      refine va_callv (va_runI (As := [.int 1, .ref (aK 1), .long 0]) (rest := [.ref z]) ⟨hx, hb, hml, hown, htb⟩ (k_VA_init l dC dI _ z 1 (aK 1) 0 em aK aV ) (cwI 3 htb (g_all (fun _ h => h) m_373) rfl rfl rfl (htb _ m_18) (htb _ m_438) (htb _ m_372) rfl (by decide +kernel) ⟨Nat.le_of_ble_eq_true rfl, Nat.le_of_ble_eq_true rfl⟩) ⟨fun a U g mk q => by obtain ⟨q0, q1, qP, qK, qD, z0⟩ := q; exact ⟨q0, q1, qP, va_K.moved (u := U) (U := U.calling g mk a) (Vm.Alike.refl U.vm) qK, qD, EX.same (U := U) (U' := U.calling g mk a) rfl z0⟩, fun U hU hW => ⟨rfl, by rw [hU], by rw [hU]; exact hPc, va_K.moved hW.alike hKc, hDc.weaken (fun _ _ _ _ => trivial), by rw [hU]; exact EX.warm hW ((hE.kept (fun a h1 h2 => hS.2.1 a h1 h2)).narrow hFc)⟩⟩ rfl rfl hl.1 rfl (lv_room (Nat.le_of_ble_eq_true rfl)) d_CU_number_24 ⟨(by show 2 ≤ (4 + cns (L.drop a) (num (L.drop a))); omega), (by show 10 ≤ (174 + 286 * cns (L.drop a) (num (L.drop a))); omega)⟩) hS (fun q _ h => hFc q h) hFc (fun u15 t H1 locs ht hvm hw17 hB hz1 hk1 hS => ?_)
      obtain ⟨x19, hP1, hK1, hD1⟩ := hB
      rw [ht] at hP1
      have hK1 := va_K.moved hvm.symm hK1
      have hw17 : True := hw17
      obtain ⟨hP, hD⟩ := zz_joinN (pre := [(sb, .inr (13, [.ref bv, .int 0, .int ml, .int (nI tx.length)])), (bv, .inl (cB, cap, .inl g)), (x, .inr (1, [.ref dl, .int (nI L.length), .int (nI (a + 1)), .ref sb])), (dl, .inl (cC, 160, .inl f)), (z, .inr (3, [.int 0, .null, .long 0, .null, .null, .int 0, .int 0]))]) (fz := fz) (wc := [(z, .inr (3, [.int 0, .null, .long 0, .null, .null, .int 0, .int 0]))]) (wr := [(sb, .inr (13, [.ref bv, .int 0, .int ml, .int (nI tx.length)])), (bv, .inl (cB, cap, .inl g)), (x, .inr (1, [.ref dl, .int (nI L.length), .int (nI (a + 1)), .ref sb])), (dl, .inl (cC, 160, .inl f))]) (w1 := [(z, .inr (3, [.int 1, .ref (aK 1), .long 0, .ref (aK 0), .ref x19, .int 0, .int 1])), (x19, .inr (14, [.ref em, .int 0, .int 0]))]) hP hD [4] [0, 1, 2, 3] rfl rfl (by decide) (by decide) hk1 hFc hP1 hD1
      have hK := (hK.sub (tys' := [(cB, .byte), (cC, .char)]) [0, 1] rfl).app hK1
      generalize H1 = H at hP hS ⊢
      have hP : va_P (dC, dI) vwCl ([(sb, .inr (13, [.ref bv, .int 0, .int ml, .int (nI tx.length)])), (bv, .inl (cB, cap, .inl g)), (x, .inr (1, [.ref dl, .int (nI L.length), .int (nI (a + 1)), .ref sb])), (dl, .inl (cC, 160, .inl f)), (z, .inr (3, [.int 1, .ref (aK 1), .long 0, .ref (aK 0), .ref x19, .int 0, .int 1])), (x19, .inr (14, [.ref em, .int 0, .int 0]))] ++ fz) H := hP
      have hD : va_D A ([(sb, .inr (13, [.ref bv, .int 0, .int ml, .int (nI tx.length)])), (bv, .inl (cB, cap, .inl g)), (x, .inr (1, [.ref dl, .int (nI L.length), .int (nI (a + 1)), .ref sb])), (dl, .inl (cC, 160, .inl f)), (z, .inr (3, [.int 1, .ref (aK 1), .long 0, .ref (aK 0), .ref x19, .int 0, .int 1])), (x19, .inr (14, [.ref em, .int 0, .int 0]))] ++ fz) := hD
      have hK : va_K (dC, dI) vwCl [(cB, .byte), (cC, .char)] s := hK
      refine W.widen (k := 2) (n := 10) (Nat.le_of_ble_eq_true rfl) (Nat.le_of_ble_eq_true rfl) ?_
      have hP9 := zz_pickP (pre := [(sb, .inr (13, [.ref bv, .int 0, .int ml, .int (nI tx.length)])), (bv, .inl (cB, cap, .inl g)), (x, .inr (1, [.ref dl, .int (nI L.length), .int (nI (a + 1)), .ref sb])), (dl, .inl (cC, 160, .inl f)), (z, .inr (3, [.int 1, .ref (aK 1), .long 0, .ref (aK 0), .ref x19, .int 0, .int 1])), (x19, .inr (14, [.ref em, .int 0, .int 0]))]) (fz := fz) (wc := [(x, .inr (1, [.ref dl, .int (nI L.length), .int (nI (a + 1)), .ref sb])), (dl, .inl (cC, 160, .inl f)), (sb, .inr (13, [.ref bv, .int 0, .int ml, .int (nI tx.length)])), (bv, .inl (cB, cap, .inl g)), (z, .inr (3, [.int 1, .ref (aK 1), .long 0, .ref (aK 0), .ref x19, .int 0, .int 1])), (x19, .inr (14, [.ref em, .int 0, .int 0]))]) hP [2, 3, 0, 1, 4, 5] rfl
      have hD9 := zz_pickD (pre := [(sb, .inr (13, [.ref bv, .int 0, .int ml, .int (nI tx.length)])), (bv, .inl (cB, cap, .inl g)), (x, .inr (1, [.ref dl, .int (nI L.length), .int (nI (a + 1)), .ref sb])), (dl, .inl (cC, 160, .inl f)), (z, .inr (3, [.int 1, .ref (aK 1), .long 0, .ref (aK 0), .ref x19, .int 0, .int 1])), (x19, .inr (14, [.ref em, .int 0, .int 0]))]) (fz := fz) (wc := [(x, .inr (1, [.ref dl, .int (nI L.length), .int (nI (a + 1)), .ref sb])), (dl, .inl (cC, 160, .inl f)), (sb, .inr (13, [.ref bv, .int 0, .int ml, .int (nI tx.length)])), (bv, .inl (cB, cap, .inl g)), (z, .inr (3, [.int 1, .ref (aK 1), .long 0, .ref (aK 0), .ref x19, .int 0, .int 1])), (x19, .inr (14, [.ref em, .int 0, .int 0]))]) hD [2, 3, 0, 1, 4, 5] (by decide) rfl
      have hK9 := hK.sub (tys' := [(cC, .char), (cB, .byte)]) [1, 0] rfl
      rw [hQ]
      refine W.widen (k := (4 + cns (L.drop a) (num (L.drop a)))) (n := (174 + 286 * cns (L.drop a) (num (L.drop a)))) ((by show 2 ≤ (4 + cns (L.drop a) (num (L.drop a))); omega)) ((by show 10 ≤ (174 + 286 * cns (L.drop a) (num (L.drop a))); omega)) ?_
      exact W.aret (v := .ref z) hx hb hr (Or.inl ⟨_, rfl⟩) (Or.inr ⟨_, rfl⟩) (fun t ht hW => ⟨⟨(some z), (a + 1, ml, tx, cap, g, [(z, .inr (3, [.int 1, .ref (aK 1), .long 0, .ref (aK 0), .ref x19, .int 0, .int 1])), (x19, .inr (14, [.ref em, .int 0, .int 0]))]), rfl, ⟨hB, by omega, by omega, Or.inr ⟨_, 0, rfl, hsm, VT.scalar (a := z) (tx := aK 1) (nm := aK 0) (pa := x19) (mo := 0) (tt := LTx.getD 1 []) (nn := []) List.mem_cons_self (Or.inr ⟨1, by decide, rfl, rfl⟩) (Or.inr ⟨0, by decide, rfl, rfl⟩) (List.mem_cons_of_mem _ List.mem_cons_self) nb_hd0 (by decide)⟩⟩, ⟨bv, by rw [ht]; exact hP9, va_K.moved hW.alike hK9, hD9⟩⟩, hS.F ht⟩) hS.2.2 d_CU_number_27
    · rw [hab14] at hP hD
      have hP : va_P (dC, dI) vwCl ([(sb, .inr (13, [.ref bv, .int 0, .int ml, .int (nI tx.length)])), (bv, .inl (cB, cap, .inl g)), (x, .inr (1, [.ref dl, .int (nI L.length), .int (nI a), .ref sb])), (dl, .inl (cC, 160, .inl f))] ++ fz) H := hP
      have hD : va_D A ([(sb, .inr (13, [.ref bv, .int 0, .int ml, .int (nI tx.length)])), (bv, .inl (cB, cap, .inl g)), (x, .inr (1, [.ref dl, .int (nI L.length), .int (nI a), .ref sb])), (dl, .inl (cC, 160, .inl f))] ++ fz) := hD
      have hh0 : ¬ hd0 (L.drop (a)) = 48 := fun h => g12 (drop_head.symm.trans h)
      have hh1 : hd0 (L.drop (a)) = L.getD (a) 0 := drop_head
      have hnum : num (L.drop a) = if isDig (L.getD (a) 0) then numF false (numD (L.drop (a)) 0) else none := by
        rw [num, if_neg (fun h => hmi (hha.symm.trans h)), numR, if_neg hh0, hh1]
      refine lv_if_eq (tgt := 28) hx hb d_CU_number_13 rfl (fun _ => ?_) (fun h9 => absurd (rfl) h9)
      refine lv_aload_n hx hb d_CU_number_28 rfl (lv_at hl 1 rfl) ?_
      refine va_get (D := (dC, dI)) (ci := 1) (v := .ref sb) (C := R_CU) (T := T_CU) (N := 4) hx hb htb in_CU hown hK hP 2 rfl rfl 3 (by decide) (htb _ m_145) (fun _ h9 => h9) rfl d_CU_number_29 ?_
      refine lv_iconst (v := 0) hx hb d_CU_number_32 (by decide) ?_
      have hPc := hP.sub (ws' := [(sb, .inr (13, [.ref bv, .int 0, .int ml, .int (nI tx.length)])), (bv, .inl (cB, cap, .inl g))]) [0, 1] rfl
      have hDc := hD.sub (ws' := [(sb, .inr (13, [.ref bv, .int 0, .int ml, .int (nI tx.length)])), (bv, .inl (cB, cap, .inl g))]) [0, 1] (by decide) rfl
      have hFc := va_free (wc := [(sb, .inr (13, [.ref bv, .int 0, .int ml, .int (nI tx.length)])), (bv, .inl (cB, cap, .inl g))]) hD hS hA [0, 1] rfl
      have hKc := hK.sub (tys' := [(cB, .byte)]) [0] rfl
      refine va_callv (va_runV (As := [.int 0]) (rest := []) ⟨hx, hb, hml, hown, htb⟩ (k_SB_setLength0 l dC dI _ sb bv ml tx.length cB g cap hB.2.1 hB.cap) (cwV 1 htb (g_V (fun _ h => h) m_196 m_193 m_194 m_195 m_3) rfl rfl rfl (by decide +kernel) ⟨Nat.le_of_ble_eq_true rfl, Nat.le_of_ble_eq_true rfl⟩) ⟨fun a U g mk q => by obtain ⟨q0, q1, qP, qK, qD⟩ := q; exact ⟨q0, q1, qP, va_K.moved (u := U) (U := U.calling g mk a) (Vm.Alike.refl U.vm) qK, qD⟩, va_recv hK hP (ci := 13) rfl (q0 := 0) rfl, fun U hU hW => ⟨rfl, by rw [hU], by rw [hU]; exact hPc, va_K.moved hW.alike hKc, hDc.weaken (fun _ _ _ _ => trivial)⟩⟩ rfl rfl hl.1 rfl (lv_room (Nat.le_of_ble_eq_true rfl)) d_CU_number_33 ⟨(by show 0 ≤ (4 + cns (L.drop a) (num (L.drop a))); omega), (by show 0 ≤ (174 + 286 * cns (L.drop a) (num (L.drop a))); omega)⟩) hS (fun q _ h => hFc q h) hFc (fun u15 t H1 locs ht hvm hw17 hB hz1 hk1 hS => ?_)
      obtain ⟨hP1, hK1, hD1⟩ := hB
      rw [ht] at hP1
      have hK1 := va_K.moved hvm.symm hK1
      have hw17 : True := hw17
      obtain ⟨hP, hD⟩ := zz_joinN (pre := [(sb, .inr (13, [.ref bv, .int 0, .int ml, .int (nI tx.length)])), (bv, .inl (cB, cap, .inl g)), (x, .inr (1, [.ref dl, .int (nI L.length), .int (nI a), .ref sb])), (dl, .inl (cC, 160, .inl f))]) (fz := fz) (wc := [(sb, .inr (13, [.ref bv, .int 0, .int ml, .int (nI tx.length)])), (bv, .inl (cB, cap, .inl g))]) (wr := [(x, .inr (1, [.ref dl, .int (nI L.length), .int (nI a), .ref sb])), (dl, .inl (cC, 160, .inl f))]) (w1 := [(sb, .inr (13, [.ref bv, .int 0, .int u15, .int 0])), (bv, .inl (cB, cap, .inl g))]) hP hD [0, 1] [2, 3] rfl rfl (by decide) (by decide) hk1 hFc hP1 hD1
      have hK := (hK.sub (tys' := [(cC, .char)]) [1] rfl).app hK1
      generalize H1 = H at hP hS ⊢
      have hP : va_P (dC, dI) vwCl ([(x, .inr (1, [.ref dl, .int (nI L.length), .int (nI a), .ref sb])), (dl, .inl (cC, 160, .inl f)), (sb, .inr (13, [.ref bv, .int 0, .int u15, .int 0])), (bv, .inl (cB, cap, .inl g))] ++ fz) H := hP
      have hD : va_D A ([(x, .inr (1, [.ref dl, .int (nI L.length), .int (nI a), .ref sb])), (dl, .inl (cC, 160, .inl f)), (sb, .inr (13, [.ref bv, .int 0, .int u15, .int 0])), (bv, .inl (cB, cap, .inl g))] ++ fz) := hD
      have hK : va_K (dC, dI) vwCl [(cC, .char), (cB, .byte)] s := hK
      refine lv_iload_n hx hb d_CU_number_36 rfl (lv_at hl 0 rfl) ?_
      refine lv_if_eq (tgt := 50) hx hb d_CU_number_37 rfl (fun _ => ?_) (fun h9 => absurd (rfl) h9)
      refine lv_lconst (v := 0) hx hb d_CU_number_50 (by decide) ?_
      refine lv_lstore_n hx hb d_CU_number_51 rfl hl (by decide) rfl (fun ls hl => ?_)
      have hl : lv_has ls 6 [(2, .long 0), (1, .int 0), (0, .ref x)] := hl
      refine lv_iconst (v := 0) hx hb d_CU_number_52 (by decide) ?_
      refine lv_istore hx hb d_CU_number_53 hl (by decide) rfl (fun ls hl => ?_)
      have hl : lv_has ls 6 [(4, .int 0), (2, .long 0), (1, .int 0), (0, .ref x)] := hl
      have hloop : ∀ (k9 : Nat) (b : Nat) (bv1 : Nat) (ml1 : Int32) (cap1 : Nat) (g1 : Nat → Int32) (tx1 : List Nat) (k : Nat) (v : Nat) (H : Heap) (locs : List Loc) (ls : Array Slot), L.length - b = k9 → (a ≤ b) → (b ≤ L.length) → (Bld tx1 cap1 g1) → (¬ k = 0 → num (L.drop a) = numF false (numD (L.drop b) v)) → (¬ k = 0 → tx1 = [] ++ digs v) → (¬ k = 0 → 1 ≤ v) → (k = 0 → v = 0) → (k = 0 → tx1 = []) → (k = b - a) → (tx1.length ≤ b - a) → (v ≤ 2 ^ 63) → (b - a ≤ cns (L.drop a) (num (L.drop a))) → lv_has ls 6 [(4, .int (nI k)), (2, .long (lI (-(v : Int)))), (1, .int 0), (0, .ref x)] → va_P (dC, dI) vwCl ([(x, .inr (1, [.ref dl, .int (nI L.length), .int (nI b), .ref sb])), (dl, .inl (cC, 160, .inl f)), (sb, .inr (13, [.ref bv1, .int 0, .int ml1, .int (nI tx1.length)])), (bv1, .inl (cB, cap1, .inl g1))] ++ fz) H → va_D A ([(x, .inr (1, [.ref dl, .int (nI L.length), .int (nI b), .ref sb])), (dl, .inl (cC, 160, .inl f)), (sb, .inr (13, [.ref bv1, .int 0, .int ml1, .int (nI tx1.length)])), (bv1, .inl (cB, cap1, .inl g1))] ++ fz) → va_S A s.heap H locs → W p l e (headSpec ws_CU_number ({ frames := 6, cells := (4 + cns (L.drop a) (num (L.drop a))), slots := (174 + 286 * cns (L.drop a) (num (L.drop a))), locals := 151 })).room s m args below meth c H locs (b - a) (286 * (b - a)) Q (F0 m 55 ls []) := by
        intro k9
        induction k9 using Nat.strongRecOn with
        | ind k9 ih =>
          intro b bv1 ml1 cap1 g1 tx1 k v H locs ls hk9 hi0 hi1 hiB hi2 hi3 hi4 hi5 hi6 hi7 hi8 hi9 hi10 hl hP hD hS
          refine lv_aload_n hx hb d_CU_number_55 rfl (lv_at hl 3 rfl) ?_
          refine va_get (D := (dC, dI)) (ci := 1) (v := .int (nI b)) (C := R_CU) (T := T_CU) (N := 4) hx hb htb in_CU hown hK hP 0 rfl rfl 2 (by decide) (htb _ m_144) (fun _ h9 => h9) rfl d_CU_number_56 ?_
          refine lv_aload_n hx hb d_CU_number_59 rfl (lv_at hl 3 rfl) ?_
          refine va_get (D := (dC, dI)) (ci := 1) (v := .int (nI L.length)) (C := R_CU) (T := T_CU) (N := 4) hx hb htb in_CU hown hK hP 0 rfl rfl 1 (by decide) (htb _ m_143) (fun _ h9 => h9) rfl d_CU_number_60 ?_
          have hcl := hL.lt b
          have hlb : (L.drop (b + 1)).length = L.length - (b + 1) := List.length_drop
          refine lv_icmp_ge (tgt := 164) hx hb d_CU_number_63 rfl (fun h1 => ?_) (fun h1 => ?_)
          · have h1 : L.length ≤ b := (nI_leI (by omega) (by omega)).mp h1
            have hnd : isDig (L.getD b 0) = false := by rw [getD_end h1]; rfl
            refine lv_iload hx hb d_CU_number_164 (lv_at hl 0 rfl) ?_
            refine lv_if_eq (tgt := 181) hx hb d_CU_number_166 rfl (fun hk1 => ?_) (fun hk1 => ?_)
            · have hk0 : k = 0 := (nI_eq (by omega) (by decide)).mp hk1
              have hbb : b = a := by omega
              have hno : num (L.drop a) = none := by rw [hnum, ← hbb, hnd]; rfl
              have hcs : cns (L.drop a) (num (L.drop a)) = L.length - a := by rw [hno]; exact hlen
              refine lv_null hx hb d_CU_number_181 ?_
              have hP9 := zz_pickP (pre := [(x, .inr (1, [.ref dl, .int (nI L.length), .int (nI b), .ref sb])), (dl, .inl (cC, 160, .inl f)), (sb, .inr (13, [.ref bv1, .int 0, .int ml1, .int (nI tx1.length)])), (bv1, .inl (cB, cap1, .inl g1))]) (fz := fz) (wc := [(x, .inr (1, [.ref dl, .int (nI L.length), .int (nI b), .ref sb])), (dl, .inl (cC, 160, .inl f)), (sb, .inr (13, [.ref bv1, .int 0, .int ml1, .int (nI tx1.length)])), (bv1, .inl (cB, cap1, .inl g1))]) hP [0, 1, 2, 3] rfl
              have hD9 := zz_pickD (pre := [(x, .inr (1, [.ref dl, .int (nI L.length), .int (nI b), .ref sb])), (dl, .inl (cC, 160, .inl f)), (sb, .inr (13, [.ref bv1, .int 0, .int ml1, .int (nI tx1.length)])), (bv1, .inl (cB, cap1, .inl g1))]) (fz := fz) (wc := [(x, .inr (1, [.ref dl, .int (nI L.length), .int (nI b), .ref sb])), (dl, .inl (cC, 160, .inl f)), (sb, .inr (13, [.ref bv1, .int 0, .int ml1, .int (nI tx1.length)])), (bv1, .inl (cB, cap1, .inl g1))]) hD [0, 1, 2, 3] (by decide) rfl
              have hK9 := hK.sub (tys' := [(cC, .char), (cB, .byte)]) [0, 1] rfl
              rw [hQ]
              refine W.widen (k := (4 + cns (L.drop a) (num (L.drop a)))) (n := (174 + 286 * cns (L.drop a) (num (L.drop a)))) ((by show (b - a) ≤ (4 + cns (L.drop a) (num (L.drop a))); omega)) ((by show (286 * (b - a)) ≤ (174 + 286 * cns (L.drop a) (num (L.drop a))); omega)) ?_
              exact W.aret (v := .null) hx hb hr (Or.inl ⟨_, rfl⟩) (Or.inl rfl) (fun t ht hW => ⟨⟨none, (b, ml1, tx1, cap1, g1, []), rfl, ⟨hiB, by omega, by omega, Or.inl ⟨rfl, hno, rfl⟩⟩, ⟨bv1, by rw [ht]; exact hP9, va_K.moved hW.alike hK9, hD9⟩⟩, hS.F ht⟩) hS.2.2 d_CU_number_182
            · have hk0 : ¬ k = 0 := fun h => hk1 (by rw [h]; rfl)
              have hfin : num (L.drop a) = numF false (some (v, L.drop b)) := by rw [hi2 hk0, numD_end hnd]
              have hv1 := hi4 hk0
              refine lv_iload_n hx hb d_CU_number_169 rfl (lv_at hl 2 rfl) ?_
              refine lv_if_ne (tgt := 183) hx hb d_CU_number_170 rfl (fun h9 => absurd (rfl) h9) (fun _ => ?_)
              refine lv_lload_n hx hb d_CU_number_173 rfl (lv_at hl 1 rfl) ?_
              refine lv_ldc2 (v := (-9223372036854775808)) hx hb hown (htb _ m_441) d_CU_number_174 ?_
              refine W.lcmp hx hb d_CU_number_177 ?_
              refine lv_if_ne (tgt := 183) hx hb d_CU_number_178 rfl (fun hv9 => ?_) (fun hv9 => ?_)
              · have hbig : ¬ v = 2 ^ 63 := fun h => hv9 ((nb_least hi9).mpr h)
                have hsm : num (L.drop a) = some ((v : Int), L.drop b) := by rw [hfin, numF, if_neg (by decide), if_neg hbig]
                have hcs : cns (L.drop a) (num (L.drop a)) = b - a := by rw [hsm]; show (L.drop a).length - (L.drop b).length = b - a; rw [hlen, List.length_drop]; omega
                refine va_new (ci := 3) (fs := [.int 0, .null, .long 0, .null, .null, .int 0, .int 0]) (C := R_VA) (T := T_VA) (N := 7) hx hb htb in_VA ty_VA ty_VA_ok hown (htb _ m_436) (htb _ m_370) (htb _ m_18) hK hP hD hS hA rfl (fun j hj => by rcases (show j = 0 ∨ j = 1 ∨ j = 2 ∨ j = 3 ∨ j = 4 ∨ j = 5 ∨ j = 6 by omega) with rfl | rfl | rfl | rfl | rfl | rfl | rfl <;> rfl) ((by show ((b - a) + 1) ≤ (4 + cns (L.drop a) (num (L.drop a))); omega)) ((by show ((286 * (b - a)) + 7) ≤ (174 + 286 * cns (L.drop a) (num (L.drop a))); omega)) d_CU_number_183 (fun z H hP hD hS => ?_)
                have hP := zz_rotP (pre := [(x, .inr (1, [.ref dl, .int (nI L.length), .int (nI b), .ref sb])), (dl, .inl (cC, 160, .inl f)), (sb, .inr (13, [.ref bv1, .int 0, .int ml1, .int (nI tx1.length)])), (bv1, .inl (cB, cap1, .inl g1))]) (fz := fz) hP
                have hD := zz_rotD (pre := [(x, .inr (1, [.ref dl, .int (nI L.length), .int (nI b), .ref sb])), (dl, .inl (cC, 160, .inl f)), (sb, .inr (13, [.ref bv1, .int 0, .int ml1, .int (nI tx1.length)])), (bv1, .inl (cB, cap1, .inl g1))]) (fz := fz) hD
                have hP : va_P (dC, dI) vwCl ([(x, .inr (1, [.ref dl, .int (nI L.length), .int (nI b), .ref sb])), (dl, .inl (cC, 160, .inl f)), (sb, .inr (13, [.ref bv1, .int 0, .int ml1, .int (nI tx1.length)])), (bv1, .inl (cB, cap1, .inl g1)), (z, .inr (3, [.int 0, .null, .long 0, .null, .null, .int 0, .int 0]))] ++ fz) H := hP
                have hD : va_D A ([(x, .inr (1, [.ref dl, .int (nI L.length), .int (nI b), .ref sb])), (dl, .inl (cC, 160, .inl f)), (sb, .inr (13, [.ref bv1, .int 0, .int ml1, .int (nI tx1.length)])), (bv1, .inl (cB, cap1, .inl g1)), (z, .inr (3, [.int 0, .null, .long 0, .null, .null, .int 0, .int 0]))] ++ fz) := hD
                refine lv_dup hx hb d_CU_number_186 rfl ?_
                refine lv_iconst (v := 1) hx hb d_CU_number_187 (by decide) ?_
                refine lv_aload_n hx hb d_CU_number_188 rfl (lv_at hl 3 rfl) ?_
                refine va_get (D := (dC, dI)) (ci := 1) (v := .ref sb) (C := R_CU) (T := T_CU) (N := 4) hx hb htb in_CU hown hK hP 0 rfl rfl 3 (by decide) (htb _ m_145) (fun _ h9 => h9) rfl d_CU_number_189 ?_
                have hPc := hP.sub (ws' := [(sb, .inr (13, [.ref bv1, .int 0, .int ml1, .int (nI tx1.length)])), (bv1, .inl (cB, cap1, .inl g1))]) [2, 3] rfl
                have hDc := hD.sub (ws' := [(sb, .inr (13, [.ref bv1, .int 0, .int ml1, .int (nI tx1.length)])), (bv1, .inl (cB, cap1, .inl g1))]) [2, 3] (by decide) rfl
                have hFc := va_free (wc := [(sb, .inr (13, [.ref bv1, .int 0, .int ml1, .int (nI tx1.length)])), (bv1, .inl (cB, cap1, .inl g1))]) hD hS hA [2, 3] rfl
                have hKc := hK.sub (tys' := [(cB, .byte)]) [1] rfl
                refine va_callr (va_runV (As := []) (rest := [.int 1, .ref z, .ref z]) ⟨hx, hb, hml, hown, htb⟩ (k_SB_toString l dC dI _ sb bv1 ml1 tx1.length cB g1 cap1 em aK aV hiB.2.2.2.1 (by omega) hiB.2.1 hiB.cap) (cwV 0 htb (g_V (fun _ h => h) m_256 m_253 m_254 m_255 m_3) rfl rfl rfl (by decide +kernel) ⟨Nat.le_of_ble_eq_true rfl, Nat.le_of_ble_eq_true rfl⟩) ⟨fun a U g mk q => by obtain ⟨q0, q1, qP, qK, qD, z0⟩ := q; exact ⟨q0, q1, qP, va_K.moved (u := U) (U := U.calling g mk a) (Vm.Alike.refl U.vm) qK, qD, EX.same (U := U) (U' := U.calling g mk a) rfl z0⟩, va_recv hK hP (ci := 13) rfl (q0 := 2) rfl, fun U hU hW => ⟨rfl, by rw [hU], by rw [hU]; exact hPc, va_K.moved hW.alike hKc, hDc.weaken (fun _ _ _ _ => trivial), by rw [hU]; exact EX.warm hW ((hE.kept (fun a h1 h2 => hS.2.1 a h1 h2)).narrow hFc)⟩⟩ rfl rfl hl.1 rfl (lv_room (Nat.le_of_ble_eq_true rfl)) d_CU_number_192 ⟨(by show (((b - a) + 1) + 2) ≤ (4 + cns (L.drop a) (num (L.drop a))); omega), (by show (((286 * (b - a)) + 7) + 164) ≤ (174 + 286 * cns (L.drop a) (num (L.drop a))); omega)⟩) hS (fun q _ h => hFc q h) hFc (fun u19 ra22 t H1 locs ht hvm hw21 hB hz1 hk1 hS => ?_)
                obtain ⟨x23, hP1, hK1, hD1⟩ := hB
                rw [ht] at hP1
                have hK1 := va_K.moved hvm.symm hK1
                have hw21 : ∀ i, i < tx1.length → u19 i = g1 i := hw21
                obtain ⟨hP, hD⟩ := zz_joinN (pre := [(x, .inr (1, [.ref dl, .int (nI L.length), .int (nI b), .ref sb])), (dl, .inl (cC, 160, .inl f)), (sb, .inr (13, [.ref bv1, .int 0, .int ml1, .int (nI tx1.length)])), (bv1, .inl (cB, cap1, .inl g1)), (z, .inr (3, [.int 0, .null, .long 0, .null, .null, .int 0, .int 0]))]) (fz := fz) (wc := [(sb, .inr (13, [.ref bv1, .int 0, .int ml1, .int (nI tx1.length)])), (bv1, .inl (cB, cap1, .inl g1))]) (wr := [(x, .inr (1, [.ref dl, .int (nI L.length), .int (nI b), .ref sb])), (dl, .inl (cC, 160, .inl f)), (z, .inr (3, [.int 0, .null, .long 0, .null, .null, .int 0, .int 0]))]) (w1 := [(sb, .inr (13, [.ref bv1, .int 0, .int ml1, .int (nI tx1.length)])), (bv1, .inl (cB, cap1, .inl g1)), (ra22, .inr (15, [.ref x23, .int 0, .int 0, .int 0])), (x23, .inl (cB, tx1.length, .inl u19))]) hP hD [2, 3] [0, 1, 4] rfl rfl (by decide) (by decide) hk1 hFc hP1 hD1
                have hK := (hK.sub (tys' := [(cC, .char)]) [0] rfl).app hK1
                generalize H1 = H at hP hS ⊢
                have hP : va_P (dC, dI) vwCl ([(x, .inr (1, [.ref dl, .int (nI L.length), .int (nI b), .ref sb])), (dl, .inl (cC, 160, .inl f)), (z, .inr (3, [.int 0, .null, .long 0, .null, .null, .int 0, .int 0])), (sb, .inr (13, [.ref bv1, .int 0, .int ml1, .int (nI tx1.length)])), (bv1, .inl (cB, cap1, .inl g1)), (ra22, .inr (15, [.ref x23, .int 0, .int 0, .int 0])), (x23, .inl (cB, tx1.length, .inl u19))] ++ fz) H := hP
                have hD : va_D A ([(x, .inr (1, [.ref dl, .int (nI L.length), .int (nI b), .ref sb])), (dl, .inl (cC, 160, .inl f)), (z, .inr (3, [.int 0, .null, .long 0, .null, .null, .int 0, .int 0])), (sb, .inr (13, [.ref bv1, .int 0, .int ml1, .int (nI tx1.length)])), (bv1, .inl (cB, cap1, .inl g1)), (ra22, .inr (15, [.ref x23, .int 0, .int 0, .int 0])), (x23, .inl (cB, tx1.length, .inl u19))] ++ fz) := hD
                have hK : va_K (dC, dI) vwCl [(cC, .char), (cB, .byte)] s := hK
                refine lv_iload_n hx hb d_CU_number_195 rfl (lv_at hl 2 rfl) ?_
                refine lv_if_eq (tgt := 203) hx hb d_CU_number_196 rfl (fun _ => ?_) (fun h9 => absurd (rfl) h9)
                refine lv_lload_n hx hb d_CU_number_203 rfl (lv_at hl 1 rfl) ?_
                refine lv_lneg hx hb d_CU_number_204 ?_
                refine W.eq (congrArg (fun z99 => F0 m 205 ls (.long z99 :: [.ref ra22, .int 1, .ref z, .ref z])) (nb_neg _ : (- (lI (-(v : Int)))) = lI (v : Int))) ?_
                have hPc := hP.sub (ws' := [(z, .inr (3, [.int 0, .null, .long 0, .null, .null, .int 0, .int 0]))]) [2] rfl
                have hDc := hD.sub (ws' := [(z, .inr (3, [.int 0, .null, .long 0, .null, .null, .int 0, .int 0]))]) [2] (by decide) rfl
                have hFc := va_free (wc := [(z, .inr (3, [.int 0, .null, .long 0, .null, .null, .int 0, .int 0]))]) hD hS hA [2] rfl
                have hKc := hK.sub (tys' := []) [] rfl
                refine va_callv (va_runI (As := [.int 1, .ref ra22, .long (lI (v : Int))]) (rest := [.ref z]) ⟨hx, hb, hml, hown, htb⟩ (k_VA_init l dC dI _ z 1 ra22 (lI (v : Int)) em aK aV ) (cwI 3 htb (g_all (fun _ h => h) m_373) rfl rfl rfl (htb _ m_18) (htb _ m_438) (htb _ m_372) rfl (by decide +kernel) ⟨Nat.le_of_ble_eq_true rfl, Nat.le_of_ble_eq_true rfl⟩) ⟨fun a U g mk q => by obtain ⟨q0, q1, qP, qK, qD, z0⟩ := q; exact ⟨q0, q1, qP, va_K.moved (u := U) (U := U.calling g mk a) (Vm.Alike.refl U.vm) qK, qD, EX.same (U := U) (U' := U.calling g mk a) rfl z0⟩, fun U hU hW => ⟨rfl, by rw [hU], by rw [hU]; exact hPc, va_K.moved hW.alike hKc, hDc.weaken (fun _ _ _ _ => trivial), by rw [hU]; exact EX.warm hW ((hE.kept (fun a h1 h2 => hS.2.1 a h1 h2)).narrow hFc)⟩⟩ rfl rfl hl.1 rfl (lv_room (Nat.le_of_ble_eq_true rfl)) d_CU_number_205 ⟨(by show ((((b - a) + 1) + 2) + 1) ≤ (4 + cns (L.drop a) (num (L.drop a))); omega), (by show ((((286 * (b - a)) + 7) + 164) + 3) ≤ (174 + 286 * cns (L.drop a) (num (L.drop a))); omega)⟩) hS (fun q _ h => hFc q h) hFc (fun u24 t H1 locs ht hvm hw26 hB hz1 hk1 hS => ?_)
                obtain ⟨x28, hP1, hK1, hD1⟩ := hB
                rw [ht] at hP1
                have hK1 := va_K.moved hvm.symm hK1
                have hw26 : True := hw26
                obtain ⟨hP, hD⟩ := zz_joinN (pre := [(x, .inr (1, [.ref dl, .int (nI L.length), .int (nI b), .ref sb])), (dl, .inl (cC, 160, .inl f)), (z, .inr (3, [.int 0, .null, .long 0, .null, .null, .int 0, .int 0])), (sb, .inr (13, [.ref bv1, .int 0, .int ml1, .int (nI tx1.length)])), (bv1, .inl (cB, cap1, .inl g1)), (ra22, .inr (15, [.ref x23, .int 0, .int 0, .int 0])), (x23, .inl (cB, tx1.length, .inl u19))]) (fz := fz) (wc := [(z, .inr (3, [.int 0, .null, .long 0, .null, .null, .int 0, .int 0]))]) (wr := [(x, .inr (1, [.ref dl, .int (nI L.length), .int (nI b), .ref sb])), (dl, .inl (cC, 160, .inl f)), (sb, .inr (13, [.ref bv1, .int 0, .int ml1, .int (nI tx1.length)])), (bv1, .inl (cB, cap1, .inl g1)), (ra22, .inr (15, [.ref x23, .int 0, .int 0, .int 0])), (x23, .inl (cB, tx1.length, .inl u19))]) (w1 := [(z, .inr (3, [.int 1, .ref ra22, .long (lI (v : Int)), .ref (aK 0), .ref x28, .int 0, .int 1])), (x28, .inr (14, [.ref em, .int 0, .int 0]))]) hP hD [2] [0, 1, 3, 4, 5, 6] rfl rfl (by decide) (by decide) hk1 hFc hP1 hD1
                have hK := (hK.sub (tys' := [(cC, .char), (cB, .byte)]) [0, 1] rfl).app hK1
                generalize H1 = H at hP hS ⊢
                have hP : va_P (dC, dI) vwCl ([(x, .inr (1, [.ref dl, .int (nI L.length), .int (nI b), .ref sb])), (dl, .inl (cC, 160, .inl f)), (sb, .inr (13, [.ref bv1, .int 0, .int ml1, .int (nI tx1.length)])), (bv1, .inl (cB, cap1, .inl g1)), (ra22, .inr (15, [.ref x23, .int 0, .int 0, .int 0])), (x23, .inl (cB, tx1.length, .inl u19)), (z, .inr (3, [.int 1, .ref ra22, .long (lI (v : Int)), .ref (aK 0), .ref x28, .int 0, .int 1])), (x28, .inr (14, [.ref em, .int 0, .int 0]))] ++ fz) H := hP
                have hD : va_D A ([(x, .inr (1, [.ref dl, .int (nI L.length), .int (nI b), .ref sb])), (dl, .inl (cC, 160, .inl f)), (sb, .inr (13, [.ref bv1, .int 0, .int ml1, .int (nI tx1.length)])), (bv1, .inl (cB, cap1, .inl g1)), (ra22, .inr (15, [.ref x23, .int 0, .int 0, .int 0])), (x23, .inl (cB, tx1.length, .inl u19)), (z, .inr (3, [.int 1, .ref ra22, .long (lI (v : Int)), .ref (aK 0), .ref x28, .int 0, .int 1])), (x28, .inr (14, [.ref em, .int 0, .int 0]))] ++ fz) := hD
                have hK : va_K (dC, dI) vwCl [(cC, .char), (cB, .byte)] s := hK
                have hdec : tx1 = dec ((v : Int)) := (hi3 hk0).trans dec_pos.symm
                have hrng := nb_rng2 hi9 hbig
                have hP9 := zz_pickP (pre := [(x, .inr (1, [.ref dl, .int (nI L.length), .int (nI b), .ref sb])), (dl, .inl (cC, 160, .inl f)), (sb, .inr (13, [.ref bv1, .int 0, .int ml1, .int (nI tx1.length)])), (bv1, .inl (cB, cap1, .inl g1)), (ra22, .inr (15, [.ref x23, .int 0, .int 0, .int 0])), (x23, .inl (cB, tx1.length, .inl u19)), (z, .inr (3, [.int 1, .ref ra22, .long (lI (v : Int)), .ref (aK 0), .ref x28, .int 0, .int 1])), (x28, .inr (14, [.ref em, .int 0, .int 0]))]) (fz := fz) (wc := [(x, .inr (1, [.ref dl, .int (nI L.length), .int (nI b), .ref sb])), (dl, .inl (cC, 160, .inl f)), (sb, .inr (13, [.ref bv1, .int 0, .int ml1, .int (nI tx1.length)])), (bv1, .inl (cB, cap1, .inl g1)), (z, .inr (3, [.int 1, .ref ra22, .long (lI (v : Int)), .ref (aK 0), .ref x28, .int 0, .int 1])), (x28, .inr (14, [.ref em, .int 0, .int 0])), (ra22, .inr (15, [.ref x23, .int 0, .int 0, .int 0])), (x23, .inl (cB, tx1.length, .inl u19))]) hP [0, 1, 2, 3, 6, 7, 4, 5] rfl
                have hD9 := zz_pickD (pre := [(x, .inr (1, [.ref dl, .int (nI L.length), .int (nI b), .ref sb])), (dl, .inl (cC, 160, .inl f)), (sb, .inr (13, [.ref bv1, .int 0, .int ml1, .int (nI tx1.length)])), (bv1, .inl (cB, cap1, .inl g1)), (ra22, .inr (15, [.ref x23, .int 0, .int 0, .int 0])), (x23, .inl (cB, tx1.length, .inl u19)), (z, .inr (3, [.int 1, .ref ra22, .long (lI (v : Int)), .ref (aK 0), .ref x28, .int 0, .int 1])), (x28, .inr (14, [.ref em, .int 0, .int 0]))]) (fz := fz) (wc := [(x, .inr (1, [.ref dl, .int (nI L.length), .int (nI b), .ref sb])), (dl, .inl (cC, 160, .inl f)), (sb, .inr (13, [.ref bv1, .int 0, .int ml1, .int (nI tx1.length)])), (bv1, .inl (cB, cap1, .inl g1)), (z, .inr (3, [.int 1, .ref ra22, .long (lI (v : Int)), .ref (aK 0), .ref x28, .int 0, .int 1])), (x28, .inr (14, [.ref em, .int 0, .int 0])), (ra22, .inr (15, [.ref x23, .int 0, .int 0, .int 0])), (x23, .inl (cB, tx1.length, .inl u19))]) hD [0, 1, 2, 3, 6, 7, 4, 5] (by decide) rfl
                have hK9 := hK.sub (tys' := [(cC, .char), (cB, .byte)]) [0, 1] rfl
                rw [hQ]
                refine W.widen (k := (4 + cns (L.drop a) (num (L.drop a)))) (n := (174 + 286 * cns (L.drop a) (num (L.drop a)))) ((by show ((((b - a) + 1) + 2) + 1) ≤ (4 + cns (L.drop a) (num (L.drop a))); omega)) ((by show ((((286 * (b - a)) + 7) + 164) + 3) ≤ (174 + 286 * cns (L.drop a) (num (L.drop a))); omega)) ?_
                exact W.aret (v := .ref z) hx hb hr (Or.inl ⟨_, rfl⟩) (Or.inr ⟨_, rfl⟩) (fun t ht hW => ⟨⟨(some z), (b, ml1, tx1, cap1, g1, [(z, .inr (3, [.int 1, .ref ra22, .long (lI (v : Int)), .ref (aK 0), .ref x28, .int 0, .int 1])), (x28, .inr (14, [.ref em, .int 0, .int 0])), (ra22, .inr (15, [.ref x23, .int 0, .int 0, .int 0])), (x23, .inl (cB, tx1.length, .inl u19))]), rfl, ⟨hiB, by omega, by omega, Or.inr ⟨_, _, rfl, hsm, VT.scalar (a := z) (tx := ra22) (nm := aK 0) (pa := x28) (mo := 0) (tt := tx1) (nn := []) List.mem_cons_self (Or.inl ⟨x23, u19, List.mem_cons_of_mem _ (List.mem_cons_of_mem _ List.mem_cons_self), List.mem_cons_of_mem _ (List.mem_cons_of_mem _ (List.mem_cons_of_mem _ List.mem_cons_self)), fun i hi => by rw [hw21 i hi, hiB.2.2.1 i hi], hiB.2.2.2.2, by omega⟩) (Or.inr ⟨0, by decide, rfl, rfl⟩) (List.mem_cons_of_mem _ List.mem_cons_self) (nb_hd hdec hrng) (by decide)⟩⟩, ⟨bv1, by rw [ht]; exact hP9, va_K.moved hW.alike hK9, hD9⟩⟩, hS.F ht⟩) hS.2.2 d_CU_number_208
              · have hbig : v = 2 ^ 63 := (nb_least hi9).mp hv9
                have hno : num (L.drop a) = none := by rw [hfin, numF, if_neg (by decide), if_pos hbig]
                have hcs : cns (L.drop a) (num (L.drop a)) = L.length - a := by rw [hno]; exact hlen
                refine lv_null hx hb d_CU_number_181 ?_
                have hP9 := zz_pickP (pre := [(x, .inr (1, [.ref dl, .int (nI L.length), .int (nI b), .ref sb])), (dl, .inl (cC, 160, .inl f)), (sb, .inr (13, [.ref bv1, .int 0, .int ml1, .int (nI tx1.length)])), (bv1, .inl (cB, cap1, .inl g1))]) (fz := fz) (wc := [(x, .inr (1, [.ref dl, .int (nI L.length), .int (nI b), .ref sb])), (dl, .inl (cC, 160, .inl f)), (sb, .inr (13, [.ref bv1, .int 0, .int ml1, .int (nI tx1.length)])), (bv1, .inl (cB, cap1, .inl g1))]) hP [0, 1, 2, 3] rfl
                have hD9 := zz_pickD (pre := [(x, .inr (1, [.ref dl, .int (nI L.length), .int (nI b), .ref sb])), (dl, .inl (cC, 160, .inl f)), (sb, .inr (13, [.ref bv1, .int 0, .int ml1, .int (nI tx1.length)])), (bv1, .inl (cB, cap1, .inl g1))]) (fz := fz) (wc := [(x, .inr (1, [.ref dl, .int (nI L.length), .int (nI b), .ref sb])), (dl, .inl (cC, 160, .inl f)), (sb, .inr (13, [.ref bv1, .int 0, .int ml1, .int (nI tx1.length)])), (bv1, .inl (cB, cap1, .inl g1))]) hD [0, 1, 2, 3] (by decide) rfl
                have hK9 := hK.sub (tys' := [(cC, .char), (cB, .byte)]) [0, 1] rfl
                rw [hQ]
                refine W.widen (k := (4 + cns (L.drop a) (num (L.drop a)))) (n := (174 + 286 * cns (L.drop a) (num (L.drop a)))) ((by show (b - a) ≤ (4 + cns (L.drop a) (num (L.drop a))); omega)) ((by show (286 * (b - a)) ≤ (174 + 286 * cns (L.drop a) (num (L.drop a))); omega)) ?_
                exact W.aret (v := .null) hx hb hr (Or.inl ⟨_, rfl⟩) (Or.inl rfl) (fun t ht hW => ⟨⟨none, (b, ml1, tx1, cap1, g1, []), rfl, ⟨hiB, by omega, by omega, Or.inl ⟨rfl, hno, rfl⟩⟩, ⟨bv1, by rw [ht]; exact hP9, va_K.moved hW.alike hK9, hD9⟩⟩, hS.F ht⟩) hS.2.2 d_CU_number_182
          · have h1 : b < L.length := Nat.not_le.mp (fun h => h1 ((nI_leI (by omega) (by omega)).mpr h))
            refine lv_aload_n hx hb d_CU_number_66 rfl (lv_at hl 3 rfl) ?_
            refine va_get (D := (dC, dI)) (ci := 1) (v := .ref dl) (C := R_CU) (T := T_CU) (N := 4) hx hb htb in_CU hown hK hP 0 rfl rfl 0 (by decide) (htb _ m_142) (fun _ h9 => h9) rfl d_CU_number_67 ?_
            refine lv_aload_n hx hb d_CU_number_70 rfl (lv_at hl 3 rfl) ?_
            refine va_get (D := (dC, dI)) (ci := 1) (v := .int (nI b)) (C := R_CU) (T := T_CU) (N := 4) hx hb htb in_CU hown hK hP 0 rfl rfl 2 (by decide) (htb _ m_144) (fun _ h9 => h9) rfl d_CU_number_71 ?_
            refine va_cald hx hb hK hP 1 0 rfl rfl (vp_in_nI (by omega) (by omega)) d_CU_number_74 ?_
            refine W.eq (congrArg (fun z => F0 m 75 ls (.int z :: [])) (by rw [nI_clamp (by omega)]; exact hL.2.2 _ h1 : (f (nI b).toNatClampNeg) = nI (L.getD b 0))) ?_
            have hPc : va_P (dC, dI) vwCl [] _ := hP.sub (ws' := []) [] rfl
            have hKc := hK.sub (tys' := []) [] rfl
            refine vp_callSi (va_Run.run (va_runSN (As := [.int (nI (L.getD b 0))]) (rest := []) ⟨hx, hb, hml, hown, htb⟩ (q_PS_isDigit l dC dI (L.getD b 0) (by omega)) ⟨va_cnB 1 htb (g_all (fun _ h => h) m_427) rfl rfl rfl (nw_2 hE) (htb _ m_1) (by decide +kernel) ⟨Nat.le_of_ble_eq_true rfl, Nat.le_of_ble_eq_true rfl⟩, (htb _ m_426), trivial⟩ ⟨fun a U g mk q => by obtain ⟨q0, qP, qK⟩ := q; exact ⟨q0, qP, va_K.moved (u := U) (U := U.calling g mk a) (Vm.Alike.refl U.vm) qK⟩, fun U hU hW => ⟨rfl, by rw [hU]; exact hPc, va_K.moved hW.alike hKc⟩⟩ rfl rfl hl.1 rfl (lv_room (Nat.le_of_ble_eq_true rfl)) d_CU_number_75 ⟨(by show (b - a) ≤ (4 + cns (L.drop a) (num (L.drop a))); omega), (by show (286 * (b - a)) ≤ (174 + 286 * cns (L.drop a) (num (L.drop a))); omega)⟩)) (fun r19 hw20 => ?_)
            have hw20 : r19 = bI (isDig (L.getD b 0)) := hw20
            refine lv_if_eq (tgt := 164) hx hb d_CU_number_78 rfl (fun h2 => ?_) (fun h2 => ?_)
            · have hnd : isDig (L.getD b 0) = false := bI_eq.mp (hw20 ▸ h2)
              refine lv_iload hx hb d_CU_number_164 (lv_at hl 0 rfl) ?_
              refine lv_if_eq (tgt := 181) hx hb d_CU_number_166 rfl (fun hk1 => ?_) (fun hk1 => ?_)
              · have hk0 : k = 0 := (nI_eq (by omega) (by decide)).mp hk1
                have hbb : b = a := by omega
                have hno : num (L.drop a) = none := by rw [hnum, ← hbb, hnd]; rfl
                have hcs : cns (L.drop a) (num (L.drop a)) = L.length - a := by rw [hno]; exact hlen
                refine lv_null hx hb d_CU_number_181 ?_
                have hP9 := zz_pickP (pre := [(x, .inr (1, [.ref dl, .int (nI L.length), .int (nI b), .ref sb])), (dl, .inl (cC, 160, .inl f)), (sb, .inr (13, [.ref bv1, .int 0, .int ml1, .int (nI tx1.length)])), (bv1, .inl (cB, cap1, .inl g1))]) (fz := fz) (wc := [(x, .inr (1, [.ref dl, .int (nI L.length), .int (nI b), .ref sb])), (dl, .inl (cC, 160, .inl f)), (sb, .inr (13, [.ref bv1, .int 0, .int ml1, .int (nI tx1.length)])), (bv1, .inl (cB, cap1, .inl g1))]) hP [0, 1, 2, 3] rfl
                have hD9 := zz_pickD (pre := [(x, .inr (1, [.ref dl, .int (nI L.length), .int (nI b), .ref sb])), (dl, .inl (cC, 160, .inl f)), (sb, .inr (13, [.ref bv1, .int 0, .int ml1, .int (nI tx1.length)])), (bv1, .inl (cB, cap1, .inl g1))]) (fz := fz) (wc := [(x, .inr (1, [.ref dl, .int (nI L.length), .int (nI b), .ref sb])), (dl, .inl (cC, 160, .inl f)), (sb, .inr (13, [.ref bv1, .int 0, .int ml1, .int (nI tx1.length)])), (bv1, .inl (cB, cap1, .inl g1))]) hD [0, 1, 2, 3] (by decide) rfl
                have hK9 := hK.sub (tys' := [(cC, .char), (cB, .byte)]) [0, 1] rfl
                rw [hQ]
                refine W.widen (k := (4 + cns (L.drop a) (num (L.drop a)))) (n := (174 + 286 * cns (L.drop a) (num (L.drop a)))) ((by show (b - a) ≤ (4 + cns (L.drop a) (num (L.drop a))); omega)) ((by show (286 * (b - a)) ≤ (174 + 286 * cns (L.drop a) (num (L.drop a))); omega)) ?_
                exact W.aret (v := .null) hx hb hr (Or.inl ⟨_, rfl⟩) (Or.inl rfl) (fun t ht hW => ⟨⟨none, (b, ml1, tx1, cap1, g1, []), rfl, ⟨hiB, by omega, by omega, Or.inl ⟨rfl, hno, rfl⟩⟩, ⟨bv1, by rw [ht]; exact hP9, va_K.moved hW.alike hK9, hD9⟩⟩, hS.F ht⟩) hS.2.2 d_CU_number_182
              · have hk0 : ¬ k = 0 := fun h => hk1 (by rw [h]; rfl)
                have hfin : num (L.drop a) = numF false (some (v, L.drop b)) := by rw [hi2 hk0, numD_end hnd]
                have hv1 := hi4 hk0
                refine lv_iload_n hx hb d_CU_number_169 rfl (lv_at hl 2 rfl) ?_
                refine lv_if_ne (tgt := 183) hx hb d_CU_number_170 rfl (fun h9 => absurd (rfl) h9) (fun _ => ?_)
                refine lv_lload_n hx hb d_CU_number_173 rfl (lv_at hl 1 rfl) ?_
                refine lv_ldc2 (v := (-9223372036854775808)) hx hb hown (htb _ m_441) d_CU_number_174 ?_
                refine W.lcmp hx hb d_CU_number_177 ?_
                refine lv_if_ne (tgt := 183) hx hb d_CU_number_178 rfl (fun hv9 => ?_) (fun hv9 => ?_)
                · have hbig : ¬ v = 2 ^ 63 := fun h => hv9 ((nb_least hi9).mpr h)
                  have hsm : num (L.drop a) = some ((v : Int), L.drop b) := by rw [hfin, numF, if_neg (by decide), if_neg hbig]
                  have hcs : cns (L.drop a) (num (L.drop a)) = b - a := by rw [hsm]; show (L.drop a).length - (L.drop b).length = b - a; rw [hlen, List.length_drop]; omega
                  refine va_new (ci := 3) (fs := [.int 0, .null, .long 0, .null, .null, .int 0, .int 0]) (C := R_VA) (T := T_VA) (N := 7) hx hb htb in_VA ty_VA ty_VA_ok hown (htb _ m_436) (htb _ m_370) (htb _ m_18) hK hP hD hS hA rfl (fun j hj => by rcases (show j = 0 ∨ j = 1 ∨ j = 2 ∨ j = 3 ∨ j = 4 ∨ j = 5 ∨ j = 6 by omega) with rfl | rfl | rfl | rfl | rfl | rfl | rfl <;> rfl) ((by show ((b - a) + 1) ≤ (4 + cns (L.drop a) (num (L.drop a))); omega)) ((by show ((286 * (b - a)) + 7) ≤ (174 + 286 * cns (L.drop a) (num (L.drop a))); omega)) d_CU_number_183 (fun z H hP hD hS => ?_)
                  have hP := zz_rotP (pre := [(x, .inr (1, [.ref dl, .int (nI L.length), .int (nI b), .ref sb])), (dl, .inl (cC, 160, .inl f)), (sb, .inr (13, [.ref bv1, .int 0, .int ml1, .int (nI tx1.length)])), (bv1, .inl (cB, cap1, .inl g1))]) (fz := fz) hP
                  have hD := zz_rotD (pre := [(x, .inr (1, [.ref dl, .int (nI L.length), .int (nI b), .ref sb])), (dl, .inl (cC, 160, .inl f)), (sb, .inr (13, [.ref bv1, .int 0, .int ml1, .int (nI tx1.length)])), (bv1, .inl (cB, cap1, .inl g1))]) (fz := fz) hD
                  have hP : va_P (dC, dI) vwCl ([(x, .inr (1, [.ref dl, .int (nI L.length), .int (nI b), .ref sb])), (dl, .inl (cC, 160, .inl f)), (sb, .inr (13, [.ref bv1, .int 0, .int ml1, .int (nI tx1.length)])), (bv1, .inl (cB, cap1, .inl g1)), (z, .inr (3, [.int 0, .null, .long 0, .null, .null, .int 0, .int 0]))] ++ fz) H := hP
                  have hD : va_D A ([(x, .inr (1, [.ref dl, .int (nI L.length), .int (nI b), .ref sb])), (dl, .inl (cC, 160, .inl f)), (sb, .inr (13, [.ref bv1, .int 0, .int ml1, .int (nI tx1.length)])), (bv1, .inl (cB, cap1, .inl g1)), (z, .inr (3, [.int 0, .null, .long 0, .null, .null, .int 0, .int 0]))] ++ fz) := hD
                  refine lv_dup hx hb d_CU_number_186 rfl ?_
                  refine lv_iconst (v := 1) hx hb d_CU_number_187 (by decide) ?_
                  refine lv_aload_n hx hb d_CU_number_188 rfl (lv_at hl 3 rfl) ?_
                  refine va_get (D := (dC, dI)) (ci := 1) (v := .ref sb) (C := R_CU) (T := T_CU) (N := 4) hx hb htb in_CU hown hK hP 0 rfl rfl 3 (by decide) (htb _ m_145) (fun _ h9 => h9) rfl d_CU_number_189 ?_
                  have hPc := hP.sub (ws' := [(sb, .inr (13, [.ref bv1, .int 0, .int ml1, .int (nI tx1.length)])), (bv1, .inl (cB, cap1, .inl g1))]) [2, 3] rfl
                  have hDc := hD.sub (ws' := [(sb, .inr (13, [.ref bv1, .int 0, .int ml1, .int (nI tx1.length)])), (bv1, .inl (cB, cap1, .inl g1))]) [2, 3] (by decide) rfl
                  have hFc := va_free (wc := [(sb, .inr (13, [.ref bv1, .int 0, .int ml1, .int (nI tx1.length)])), (bv1, .inl (cB, cap1, .inl g1))]) hD hS hA [2, 3] rfl
                  have hKc := hK.sub (tys' := [(cB, .byte)]) [1] rfl
                  refine va_callr (va_runV (As := []) (rest := [.int 1, .ref z, .ref z]) ⟨hx, hb, hml, hown, htb⟩ (k_SB_toString l dC dI _ sb bv1 ml1 tx1.length cB g1 cap1 em aK aV hiB.2.2.2.1 (by omega) hiB.2.1 hiB.cap) (cwV 0 htb (g_V (fun _ h => h) m_256 m_253 m_254 m_255 m_3) rfl rfl rfl (by decide +kernel) ⟨Nat.le_of_ble_eq_true rfl, Nat.le_of_ble_eq_true rfl⟩) ⟨fun a U g mk q => by obtain ⟨q0, q1, qP, qK, qD, z0⟩ := q; exact ⟨q0, q1, qP, va_K.moved (u := U) (U := U.calling g mk a) (Vm.Alike.refl U.vm) qK, qD, EX.same (U := U) (U' := U.calling g mk a) rfl z0⟩, va_recv hK hP (ci := 13) rfl (q0 := 2) rfl, fun U hU hW => ⟨rfl, by rw [hU], by rw [hU]; exact hPc, va_K.moved hW.alike hKc, hDc.weaken (fun _ _ _ _ => trivial), by rw [hU]; exact EX.warm hW ((hE.kept (fun a h1 h2 => hS.2.1 a h1 h2)).narrow hFc)⟩⟩ rfl rfl hl.1 rfl (lv_room (Nat.le_of_ble_eq_true rfl)) d_CU_number_192 ⟨(by show (((b - a) + 1) + 2) ≤ (4 + cns (L.drop a) (num (L.drop a))); omega), (by show (((286 * (b - a)) + 7) + 164) ≤ (174 + 286 * cns (L.drop a) (num (L.drop a))); omega)⟩) hS (fun q _ h => hFc q h) hFc (fun u21 ra24 t H1 locs ht hvm hw23 hB hz1 hk1 hS => ?_)
                  obtain ⟨x25, hP1, hK1, hD1⟩ := hB
                  rw [ht] at hP1
                  have hK1 := va_K.moved hvm.symm hK1
                  have hw23 : ∀ i, i < tx1.length → u21 i = g1 i := hw23
                  obtain ⟨hP, hD⟩ := zz_joinN (pre := [(x, .inr (1, [.ref dl, .int (nI L.length), .int (nI b), .ref sb])), (dl, .inl (cC, 160, .inl f)), (sb, .inr (13, [.ref bv1, .int 0, .int ml1, .int (nI tx1.length)])), (bv1, .inl (cB, cap1, .inl g1)), (z, .inr (3, [.int 0, .null, .long 0, .null, .null, .int 0, .int 0]))]) (fz := fz) (wc := [(sb, .inr (13, [.ref bv1, .int 0, .int ml1, .int (nI tx1.length)])), (bv1, .inl (cB, cap1, .inl g1))]) (wr := [(x, .inr (1, [.ref dl, .int (nI L.length), .int (nI b), .ref sb])), (dl, .inl (cC, 160, .inl f)), (z, .inr (3, [.int 0, .null, .long 0, .null, .null, .int 0, .int 0]))]) (w1 := [(sb, .inr (13, [.ref bv1, .int 0, .int ml1, .int (nI tx1.length)])), (bv1, .inl (cB, cap1, .inl g1)), (ra24, .inr (15, [.ref x25, .int 0, .int 0, .int 0])), (x25, .inl (cB, tx1.length, .inl u21))]) hP hD [2, 3] [0, 1, 4] rfl rfl (by decide) (by decide) hk1 hFc hP1 hD1
                  have hK := (hK.sub (tys' := [(cC, .char)]) [0] rfl).app hK1
                  generalize H1 = H at hP hS ⊢
                  have hP : va_P (dC, dI) vwCl ([(x, .inr (1, [.ref dl, .int (nI L.length), .int (nI b), .ref sb])), (dl, .inl (cC, 160, .inl f)), (z, .inr (3, [.int 0, .null, .long 0, .null, .null, .int 0, .int 0])), (sb, .inr (13, [.ref bv1, .int 0, .int ml1, .int (nI tx1.length)])), (bv1, .inl (cB, cap1, .inl g1)), (ra24, .inr (15, [.ref x25, .int 0, .int 0, .int 0])), (x25, .inl (cB, tx1.length, .inl u21))] ++ fz) H := hP
                  have hD : va_D A ([(x, .inr (1, [.ref dl, .int (nI L.length), .int (nI b), .ref sb])), (dl, .inl (cC, 160, .inl f)), (z, .inr (3, [.int 0, .null, .long 0, .null, .null, .int 0, .int 0])), (sb, .inr (13, [.ref bv1, .int 0, .int ml1, .int (nI tx1.length)])), (bv1, .inl (cB, cap1, .inl g1)), (ra24, .inr (15, [.ref x25, .int 0, .int 0, .int 0])), (x25, .inl (cB, tx1.length, .inl u21))] ++ fz) := hD
                  have hK : va_K (dC, dI) vwCl [(cC, .char), (cB, .byte)] s := hK
                  refine lv_iload_n hx hb d_CU_number_195 rfl (lv_at hl 2 rfl) ?_
                  refine lv_if_eq (tgt := 203) hx hb d_CU_number_196 rfl (fun _ => ?_) (fun h9 => absurd (rfl) h9)
                  refine lv_lload_n hx hb d_CU_number_203 rfl (lv_at hl 1 rfl) ?_
                  refine lv_lneg hx hb d_CU_number_204 ?_
                  refine W.eq (congrArg (fun z99 => F0 m 205 ls (.long z99 :: [.ref ra24, .int 1, .ref z, .ref z])) (nb_neg _ : (- (lI (-(v : Int)))) = lI (v : Int))) ?_
                  have hPc := hP.sub (ws' := [(z, .inr (3, [.int 0, .null, .long 0, .null, .null, .int 0, .int 0]))]) [2] rfl
                  have hDc := hD.sub (ws' := [(z, .inr (3, [.int 0, .null, .long 0, .null, .null, .int 0, .int 0]))]) [2] (by decide) rfl
                  have hFc := va_free (wc := [(z, .inr (3, [.int 0, .null, .long 0, .null, .null, .int 0, .int 0]))]) hD hS hA [2] rfl
                  have hKc := hK.sub (tys' := []) [] rfl
                  refine va_callv (va_runI (As := [.int 1, .ref ra24, .long (lI (v : Int))]) (rest := [.ref z]) ⟨hx, hb, hml, hown, htb⟩ (k_VA_init l dC dI _ z 1 ra24 (lI (v : Int)) em aK aV ) (cwI 3 htb (g_all (fun _ h => h) m_373) rfl rfl rfl (htb _ m_18) (htb _ m_438) (htb _ m_372) rfl (by decide +kernel) ⟨Nat.le_of_ble_eq_true rfl, Nat.le_of_ble_eq_true rfl⟩) ⟨fun a U g mk q => by obtain ⟨q0, q1, qP, qK, qD, z0⟩ := q; exact ⟨q0, q1, qP, va_K.moved (u := U) (U := U.calling g mk a) (Vm.Alike.refl U.vm) qK, qD, EX.same (U := U) (U' := U.calling g mk a) rfl z0⟩, fun U hU hW => ⟨rfl, by rw [hU], by rw [hU]; exact hPc, va_K.moved hW.alike hKc, hDc.weaken (fun _ _ _ _ => trivial), by rw [hU]; exact EX.warm hW ((hE.kept (fun a h1 h2 => hS.2.1 a h1 h2)).narrow hFc)⟩⟩ rfl rfl hl.1 rfl (lv_room (Nat.le_of_ble_eq_true rfl)) d_CU_number_205 ⟨(by show ((((b - a) + 1) + 2) + 1) ≤ (4 + cns (L.drop a) (num (L.drop a))); omega), (by show ((((286 * (b - a)) + 7) + 164) + 3) ≤ (174 + 286 * cns (L.drop a) (num (L.drop a))); omega)⟩) hS (fun q _ h => hFc q h) hFc (fun u26 t H1 locs ht hvm hw28 hB hz1 hk1 hS => ?_)
                  obtain ⟨x30, hP1, hK1, hD1⟩ := hB
                  rw [ht] at hP1
                  have hK1 := va_K.moved hvm.symm hK1
                  have hw28 : True := hw28
                  obtain ⟨hP, hD⟩ := zz_joinN (pre := [(x, .inr (1, [.ref dl, .int (nI L.length), .int (nI b), .ref sb])), (dl, .inl (cC, 160, .inl f)), (z, .inr (3, [.int 0, .null, .long 0, .null, .null, .int 0, .int 0])), (sb, .inr (13, [.ref bv1, .int 0, .int ml1, .int (nI tx1.length)])), (bv1, .inl (cB, cap1, .inl g1)), (ra24, .inr (15, [.ref x25, .int 0, .int 0, .int 0])), (x25, .inl (cB, tx1.length, .inl u21))]) (fz := fz) (wc := [(z, .inr (3, [.int 0, .null, .long 0, .null, .null, .int 0, .int 0]))]) (wr := [(x, .inr (1, [.ref dl, .int (nI L.length), .int (nI b), .ref sb])), (dl, .inl (cC, 160, .inl f)), (sb, .inr (13, [.ref bv1, .int 0, .int ml1, .int (nI tx1.length)])), (bv1, .inl (cB, cap1, .inl g1)), (ra24, .inr (15, [.ref x25, .int 0, .int 0, .int 0])), (x25, .inl (cB, tx1.length, .inl u21))]) (w1 := [(z, .inr (3, [.int 1, .ref ra24, .long (lI (v : Int)), .ref (aK 0), .ref x30, .int 0, .int 1])), (x30, .inr (14, [.ref em, .int 0, .int 0]))]) hP hD [2] [0, 1, 3, 4, 5, 6] rfl rfl (by decide) (by decide) hk1 hFc hP1 hD1
                  have hK := (hK.sub (tys' := [(cC, .char), (cB, .byte)]) [0, 1] rfl).app hK1
                  generalize H1 = H at hP hS ⊢
                  have hP : va_P (dC, dI) vwCl ([(x, .inr (1, [.ref dl, .int (nI L.length), .int (nI b), .ref sb])), (dl, .inl (cC, 160, .inl f)), (sb, .inr (13, [.ref bv1, .int 0, .int ml1, .int (nI tx1.length)])), (bv1, .inl (cB, cap1, .inl g1)), (ra24, .inr (15, [.ref x25, .int 0, .int 0, .int 0])), (x25, .inl (cB, tx1.length, .inl u21)), (z, .inr (3, [.int 1, .ref ra24, .long (lI (v : Int)), .ref (aK 0), .ref x30, .int 0, .int 1])), (x30, .inr (14, [.ref em, .int 0, .int 0]))] ++ fz) H := hP
                  have hD : va_D A ([(x, .inr (1, [.ref dl, .int (nI L.length), .int (nI b), .ref sb])), (dl, .inl (cC, 160, .inl f)), (sb, .inr (13, [.ref bv1, .int 0, .int ml1, .int (nI tx1.length)])), (bv1, .inl (cB, cap1, .inl g1)), (ra24, .inr (15, [.ref x25, .int 0, .int 0, .int 0])), (x25, .inl (cB, tx1.length, .inl u21)), (z, .inr (3, [.int 1, .ref ra24, .long (lI (v : Int)), .ref (aK 0), .ref x30, .int 0, .int 1])), (x30, .inr (14, [.ref em, .int 0, .int 0]))] ++ fz) := hD
                  have hK : va_K (dC, dI) vwCl [(cC, .char), (cB, .byte)] s := hK
                  have hdec : tx1 = dec ((v : Int)) := (hi3 hk0).trans dec_pos.symm
                  have hrng := nb_rng2 hi9 hbig
                  have hP9 := zz_pickP (pre := [(x, .inr (1, [.ref dl, .int (nI L.length), .int (nI b), .ref sb])), (dl, .inl (cC, 160, .inl f)), (sb, .inr (13, [.ref bv1, .int 0, .int ml1, .int (nI tx1.length)])), (bv1, .inl (cB, cap1, .inl g1)), (ra24, .inr (15, [.ref x25, .int 0, .int 0, .int 0])), (x25, .inl (cB, tx1.length, .inl u21)), (z, .inr (3, [.int 1, .ref ra24, .long (lI (v : Int)), .ref (aK 0), .ref x30, .int 0, .int 1])), (x30, .inr (14, [.ref em, .int 0, .int 0]))]) (fz := fz) (wc := [(x, .inr (1, [.ref dl, .int (nI L.length), .int (nI b), .ref sb])), (dl, .inl (cC, 160, .inl f)), (sb, .inr (13, [.ref bv1, .int 0, .int ml1, .int (nI tx1.length)])), (bv1, .inl (cB, cap1, .inl g1)), (z, .inr (3, [.int 1, .ref ra24, .long (lI (v : Int)), .ref (aK 0), .ref x30, .int 0, .int 1])), (x30, .inr (14, [.ref em, .int 0, .int 0])), (ra24, .inr (15, [.ref x25, .int 0, .int 0, .int 0])), (x25, .inl (cB, tx1.length, .inl u21))]) hP [0, 1, 2, 3, 6, 7, 4, 5] rfl
                  have hD9 := zz_pickD (pre := [(x, .inr (1, [.ref dl, .int (nI L.length), .int (nI b), .ref sb])), (dl, .inl (cC, 160, .inl f)), (sb, .inr (13, [.ref bv1, .int 0, .int ml1, .int (nI tx1.length)])), (bv1, .inl (cB, cap1, .inl g1)), (ra24, .inr (15, [.ref x25, .int 0, .int 0, .int 0])), (x25, .inl (cB, tx1.length, .inl u21)), (z, .inr (3, [.int 1, .ref ra24, .long (lI (v : Int)), .ref (aK 0), .ref x30, .int 0, .int 1])), (x30, .inr (14, [.ref em, .int 0, .int 0]))]) (fz := fz) (wc := [(x, .inr (1, [.ref dl, .int (nI L.length), .int (nI b), .ref sb])), (dl, .inl (cC, 160, .inl f)), (sb, .inr (13, [.ref bv1, .int 0, .int ml1, .int (nI tx1.length)])), (bv1, .inl (cB, cap1, .inl g1)), (z, .inr (3, [.int 1, .ref ra24, .long (lI (v : Int)), .ref (aK 0), .ref x30, .int 0, .int 1])), (x30, .inr (14, [.ref em, .int 0, .int 0])), (ra24, .inr (15, [.ref x25, .int 0, .int 0, .int 0])), (x25, .inl (cB, tx1.length, .inl u21))]) hD [0, 1, 2, 3, 6, 7, 4, 5] (by decide) rfl
                  have hK9 := hK.sub (tys' := [(cC, .char), (cB, .byte)]) [0, 1] rfl
                  rw [hQ]
                  refine W.widen (k := (4 + cns (L.drop a) (num (L.drop a)))) (n := (174 + 286 * cns (L.drop a) (num (L.drop a)))) ((by show ((((b - a) + 1) + 2) + 1) ≤ (4 + cns (L.drop a) (num (L.drop a))); omega)) ((by show ((((286 * (b - a)) + 7) + 164) + 3) ≤ (174 + 286 * cns (L.drop a) (num (L.drop a))); omega)) ?_
                  exact W.aret (v := .ref z) hx hb hr (Or.inl ⟨_, rfl⟩) (Or.inr ⟨_, rfl⟩) (fun t ht hW => ⟨⟨(some z), (b, ml1, tx1, cap1, g1, [(z, .inr (3, [.int 1, .ref ra24, .long (lI (v : Int)), .ref (aK 0), .ref x30, .int 0, .int 1])), (x30, .inr (14, [.ref em, .int 0, .int 0])), (ra24, .inr (15, [.ref x25, .int 0, .int 0, .int 0])), (x25, .inl (cB, tx1.length, .inl u21))]), rfl, ⟨hiB, by omega, by omega, Or.inr ⟨_, _, rfl, hsm, VT.scalar (a := z) (tx := ra24) (nm := aK 0) (pa := x30) (mo := 0) (tt := tx1) (nn := []) List.mem_cons_self (Or.inl ⟨x25, u21, List.mem_cons_of_mem _ (List.mem_cons_of_mem _ List.mem_cons_self), List.mem_cons_of_mem _ (List.mem_cons_of_mem _ (List.mem_cons_of_mem _ List.mem_cons_self)), fun i hi => by rw [hw23 i hi, hiB.2.2.1 i hi], hiB.2.2.2.2, by omega⟩) (Or.inr ⟨0, by decide, rfl, rfl⟩) (List.mem_cons_of_mem _ List.mem_cons_self) (nb_hd hdec hrng) (by decide)⟩⟩, ⟨bv1, by rw [ht]; exact hP9, va_K.moved hW.alike hK9, hD9⟩⟩, hS.F ht⟩) hS.2.2 d_CU_number_208
                · have hbig : v = 2 ^ 63 := (nb_least hi9).mp hv9
                  have hno : num (L.drop a) = none := by rw [hfin, numF, if_neg (by decide), if_pos hbig]
                  have hcs : cns (L.drop a) (num (L.drop a)) = L.length - a := by rw [hno]; exact hlen
                  refine lv_null hx hb d_CU_number_181 ?_
                  have hP9 := zz_pickP (pre := [(x, .inr (1, [.ref dl, .int (nI L.length), .int (nI b), .ref sb])), (dl, .inl (cC, 160, .inl f)), (sb, .inr (13, [.ref bv1, .int 0, .int ml1, .int (nI tx1.length)])), (bv1, .inl (cB, cap1, .inl g1))]) (fz := fz) (wc := [(x, .inr (1, [.ref dl, .int (nI L.length), .int (nI b), .ref sb])), (dl, .inl (cC, 160, .inl f)), (sb, .inr (13, [.ref bv1, .int 0, .int ml1, .int (nI tx1.length)])), (bv1, .inl (cB, cap1, .inl g1))]) hP [0, 1, 2, 3] rfl
                  have hD9 := zz_pickD (pre := [(x, .inr (1, [.ref dl, .int (nI L.length), .int (nI b), .ref sb])), (dl, .inl (cC, 160, .inl f)), (sb, .inr (13, [.ref bv1, .int 0, .int ml1, .int (nI tx1.length)])), (bv1, .inl (cB, cap1, .inl g1))]) (fz := fz) (wc := [(x, .inr (1, [.ref dl, .int (nI L.length), .int (nI b), .ref sb])), (dl, .inl (cC, 160, .inl f)), (sb, .inr (13, [.ref bv1, .int 0, .int ml1, .int (nI tx1.length)])), (bv1, .inl (cB, cap1, .inl g1))]) hD [0, 1, 2, 3] (by decide) rfl
                  have hK9 := hK.sub (tys' := [(cC, .char), (cB, .byte)]) [0, 1] rfl
                  rw [hQ]
                  refine W.widen (k := (4 + cns (L.drop a) (num (L.drop a)))) (n := (174 + 286 * cns (L.drop a) (num (L.drop a)))) ((by show (b - a) ≤ (4 + cns (L.drop a) (num (L.drop a))); omega)) ((by show (286 * (b - a)) ≤ (174 + 286 * cns (L.drop a) (num (L.drop a))); omega)) ?_
                  exact W.aret (v := .null) hx hb hr (Or.inl ⟨_, rfl⟩) (Or.inl rfl) (fun t ht hW => ⟨⟨none, (b, ml1, tx1, cap1, g1, []), rfl, ⟨hiB, by omega, by omega, Or.inl ⟨rfl, hno, rfl⟩⟩, ⟨bv1, by rw [ht]; exact hP9, va_K.moved hW.alike hK9, hD9⟩⟩, hS.F ht⟩) hS.2.2 d_CU_number_182
            · have hd1 : isDig (L.getD b 0) = true := bI_ne.mp (hw20 ▸ h2)
              have hd2 := isDig_iff.mp hd1
              have hd3 : L.getD b 0 - 48 < 10 := by omega
              have hall : num (L.drop a) = numF false (numD (L.drop b) v) := by
                by_cases hk0 : k = 0
                · have hbb : b = a := by omega
                  rw [hnum, ← hbb, hd1, hi5 hk0]; rfl
                · exact hi2 hk0
              refine lv_aload_n hx hb d_CU_number_81 rfl (lv_at hl 3 rfl) ?_
              refine va_get (D := (dC, dI)) (ci := 1) (v := .ref dl) (C := R_CU) (T := T_CU) (N := 4) hx hb htb in_CU hown hK hP 0 rfl rfl 0 (by decide) (htb _ m_142) (fun _ h9 => h9) rfl d_CU_number_82 ?_
              refine lv_aload_n hx hb d_CU_number_85 rfl (lv_at hl 3 rfl) ?_
              refine va_get (D := (dC, dI)) (ci := 1) (v := .int (nI b)) (C := R_CU) (T := T_CU) (N := 4) hx hb htb in_CU hown hK hP 0 rfl rfl 2 (by decide) (htb _ m_144) (fun _ h9 => h9) rfl d_CU_number_86 ?_
              refine va_cald hx hb hK hP 1 0 rfl rfl (vp_in_nI (by omega) (by omega)) d_CU_number_89 ?_
              refine W.eq (congrArg (fun z => F0 m 90 ls (.int z :: [])) (by rw [nI_clamp (by omega)]; exact hL.2.2 _ h1 : (f (nI b).toNatClampNeg) = nI (L.getD b 0))) ?_
              refine lv_bipush (v := 48) hx hb d_CU_number_90 (by decide) ?_
              refine lv_isub hx hb d_CU_number_92 ?_
              refine W.eq (congrArg (fun z => F0 m 93 ls (.int z :: [])) (pk_sub (a := L.getD b 0) (b := 48) (by omega) : ((nI (L.getD b 0)) - 48) = nI (L.getD b 0 - 48))) ?_
              refine lv_istore hx hb d_CU_number_93 hl (by decide) rfl (fun ls hl => ?_)
              have hl : lv_has ls 6 [(5, .int (nI (L.getD b 0 - 48))), (4, .int (nI k)), (2, .long (lI (-(v : Int)))), (1, .int 0), (0, .ref x)] := hl
              refine lv_lload_n hx hb d_CU_number_95 rfl (lv_at hl 2 rfl) ?_
              refine lv_ldc2 (v := (-922337203685477580)) hx hb hown (htb _ m_439) d_CU_number_96 ?_
              refine W.lcmp hx hb d_CU_number_99 ?_
              have hk9z : k = 0 → L.getD b 0 ≠ 48 := fun hk0 h => g12 (by rw [show a = b by omega]; exact h)
              refine lv_if_lt (tgt := 119) hx hb d_CU_number_100 rfl (fun h3 => ?_) (fun h3 => ?_)
              · have hbig : 2 ^ 63 < 10 * v + (L.getD b 0 - 48) := nb_big1 _ hi9 h3
                have hno : num (L.drop a) = none := by rw [hall, drop_cons h1, numD_big hd1 hbig]; rfl
                have hcs : cns (L.drop a) (num (L.drop a)) = L.length - a := by rw [hno]; exact hlen
                refine lv_null hx hb d_CU_number_119 ?_
                have hP9 := zz_pickP (pre := [(x, .inr (1, [.ref dl, .int (nI L.length), .int (nI b), .ref sb])), (dl, .inl (cC, 160, .inl f)), (sb, .inr (13, [.ref bv1, .int 0, .int ml1, .int (nI tx1.length)])), (bv1, .inl (cB, cap1, .inl g1))]) (fz := fz) (wc := [(x, .inr (1, [.ref dl, .int (nI L.length), .int (nI b), .ref sb])), (dl, .inl (cC, 160, .inl f)), (sb, .inr (13, [.ref bv1, .int 0, .int ml1, .int (nI tx1.length)])), (bv1, .inl (cB, cap1, .inl g1))]) hP [0, 1, 2, 3] rfl
                have hD9 := zz_pickD (pre := [(x, .inr (1, [.ref dl, .int (nI L.length), .int (nI b), .ref sb])), (dl, .inl (cC, 160, .inl f)), (sb, .inr (13, [.ref bv1, .int 0, .int ml1, .int (nI tx1.length)])), (bv1, .inl (cB, cap1, .inl g1))]) (fz := fz) (wc := [(x, .inr (1, [.ref dl, .int (nI L.length), .int (nI b), .ref sb])), (dl, .inl (cC, 160, .inl f)), (sb, .inr (13, [.ref bv1, .int 0, .int ml1, .int (nI tx1.length)])), (bv1, .inl (cB, cap1, .inl g1))]) hD [0, 1, 2, 3] (by decide) rfl
                have hK9 := hK.sub (tys' := [(cC, .char), (cB, .byte)]) [0, 1] rfl
                rw [hQ]
                refine W.widen (k := (4 + cns (L.drop a) (num (L.drop a)))) (n := (174 + 286 * cns (L.drop a) (num (L.drop a)))) ((by show (b - a) ≤ (4 + cns (L.drop a) (num (L.drop a))); omega)) ((by show (286 * (b - a)) ≤ (174 + 286 * cns (L.drop a) (num (L.drop a))); omega)) ?_
                exact W.aret (v := .null) hx hb hr (Or.inl ⟨_, rfl⟩) (Or.inl rfl) (fun t ht hW => ⟨⟨none, (b, ml1, tx1, cap1, g1, []), rfl, ⟨hiB, by omega, by omega, Or.inl ⟨rfl, hno, rfl⟩⟩, ⟨bv1, by rw [ht]; exact hP9, va_K.moved hW.alike hK9, hD9⟩⟩, hS.F ht⟩) hS.2.2 d_CU_number_120
              · have h3 : v ≤ 922337203685477580 := nb_ok1 hi9 h3
                refine lv_lload_n hx hb d_CU_number_103 rfl (lv_at hl 2 rfl) ?_
                refine lv_ldc2 (v := 10) hx hb hown (htb _ m_440) d_CU_number_104 ?_
                refine lv_lmul hx hb d_CU_number_107 ?_
                refine W.eq (congrArg (fun z99 => F0 m 108 ls (.long z99 :: [])) (nb_mul v : ((lI (-(v : Int))) * 10) = lI (-((10 * v : Nat) : Int)))) ?_
                refine lv_ldc2 (v := (-9223372036854775808)) hx hb hown (htb _ m_441) d_CU_number_108 ?_
                refine lv_iload hx hb d_CU_number_111 (lv_at hl 0 rfl) ?_
                refine lv_i2l hx hb d_CU_number_113 rfl ?_
                refine lv_ladd hx hb d_CU_number_114 ?_
                refine W.eq (congrArg (fun z99 => F0 m 115 ls (.long z99 :: [.long (lI (-((10 * v : Nat) : Int)))])) (nb_add hd3 : ((-9223372036854775808) + ((nI (L.getD b 0 - 48)).toInt64)) = lI (-9223372036854775808 + ((L.getD b 0 - 48 : Nat) : Int)))) ?_
                refine W.lcmp hx hb d_CU_number_115 ?_
                refine lv_if_ge (tgt := 121) hx hb d_CU_number_116 rfl (fun h4 => ?_) (fun h4 => ?_)
                · have h4 : 10 * v + (L.getD b 0 - 48) ≤ 2 ^ 63 := nb_ok2 h3 hd3 h4
                  have hnx : num (L.drop a) = numF false (numD (L.drop (b + 1)) (10 * v + (L.getD b 0 - 48))) := by rw [hall, drop_cons h1, numD_dig hd1 h4]
                  have hcs := cns_num (mi := false) (R0 := L.drop a) (R := L.drop (b + 1)) (v := 10 * v + (L.getD b 0 - 48)) (by omega)
                  rw [← hnx, hlen, hlb] at hcs
                  refine lv_lload_n hx hb d_CU_number_121 rfl (lv_at hl 2 rfl) ?_
                  refine lv_ldc2 (v := 10) hx hb hown (htb _ m_440) d_CU_number_122 ?_
                  refine lv_lmul hx hb d_CU_number_125 ?_
                  refine W.eq (congrArg (fun z99 => F0 m 126 ls (.long z99 :: [])) (nb_mul v : ((lI (-(v : Int))) * 10) = lI (-((10 * v : Nat) : Int)))) ?_
                  refine lv_iload hx hb d_CU_number_126 (lv_at hl 0 rfl) ?_
                  refine lv_i2l hx hb d_CU_number_128 rfl ?_
                  refine lv_lsub hx hb d_CU_number_129 ?_
                  refine W.eq (congrArg (fun z99 => F0 m 130 ls (.long z99 :: [])) (nb_sub hd3 : ((lI (-((10 * v : Nat) : Int))) - ((nI (L.getD b 0 - 48)).toInt64)) = lI (-((10 * v + (L.getD b 0 - 48) : Nat) : Int)))) ?_
                  refine lv_lstore_n hx hb d_CU_number_130 rfl hl (by decide) rfl (fun ls hl => ?_)
                  have hl : lv_has ls 6 [(2, .long (lI (-((10 * v + (L.getD b 0 - 48) : Nat) : Int)))), (5, .int (nI (L.getD b 0 - 48))), (4, .int (nI k)), (1, .int 0), (0, .ref x)] := hl
                  refine lv_aload_n hx hb d_CU_number_131 rfl (lv_at hl 4 rfl) ?_
                  refine va_get (D := (dC, dI)) (ci := 1) (v := .ref sb) (C := R_CU) (T := T_CU) (N := 4) hx hb htb in_CU hown hK hP 0 rfl rfl 3 (by decide) (htb _ m_145) (fun _ h9 => h9) rfl d_CU_number_132 ?_
                  refine lv_aload_n hx hb d_CU_number_135 rfl (lv_at hl 4 rfl) ?_
                  refine va_get (D := (dC, dI)) (ci := 1) (v := .ref dl) (C := R_CU) (T := T_CU) (N := 4) hx hb htb in_CU hown hK hP 0 rfl rfl 0 (by decide) (htb _ m_142) (fun _ h9 => h9) rfl d_CU_number_136 ?_
                  refine lv_aload_n hx hb d_CU_number_139 rfl (lv_at hl 4 rfl) ?_
                  refine va_get (D := (dC, dI)) (ci := 1) (v := .int (nI b)) (C := R_CU) (T := T_CU) (N := 4) hx hb htb in_CU hown hK hP 0 rfl rfl 2 (by decide) (htb _ m_144) (fun _ h9 => h9) rfl d_CU_number_140 ?_
                  refine va_cald hx hb hK hP 1 0 rfl rfl (vp_in_nI (by omega) (by omega)) d_CU_number_143 ?_
                  refine W.eq (congrArg (fun z => F0 m 144 ls (.int z :: [.ref sb])) (by rw [nI_clamp (by omega)]; exact hL.2.2 _ h1 : (f (nI b).toNatClampNeg) = nI (L.getD b 0))) ?_
                  have hPc := hP.sub (ws' := [(sb, .inr (13, [.ref bv1, .int 0, .int ml1, .int (nI tx1.length)])), (bv1, .inl (cB, cap1, .inl g1))]) [2, 3] rfl
                  have hDc := hD.sub (ws' := [(sb, .inr (13, [.ref bv1, .int 0, .int ml1, .int (nI tx1.length)])), (bv1, .inl (cB, cap1, .inl g1))]) [2, 3] (by decide) rfl
                  have hFc := va_free (wc := [(sb, .inr (13, [.ref bv1, .int 0, .int ml1, .int (nI tx1.length)])), (bv1, .inl (cB, cap1, .inl g1))]) hD hS hA [2, 3] rfl
                  have hKc := hK.sub (tys' := [(cB, .byte)]) [1] rfl
                  refine va_callr (va_runV (As := [.int (nI (L.getD b 0))]) (rest := []) ⟨hx, hb, hml, hown, htb⟩ (k_SB_append l dC dI _ sb bv1 ml1 cB g1 cap1 tx1 (L.getD b 0) em aK aV hiB (by omega) (by omega)) (cwV 1 htb (g_V (fun _ h => h) m_337 m_334 m_335 m_336 m_3) rfl rfl rfl (by decide +kernel) ⟨Nat.le_of_ble_eq_true rfl, Nat.le_of_ble_eq_true rfl⟩) ⟨fun a U g mk q => by obtain ⟨q0, q1, qP, qK, qD, z0⟩ := q; exact ⟨q0, q1, qP, va_K.moved (u := U) (U := U.calling g mk a) (Vm.Alike.refl U.vm) qK, qD, EX.same (U := U) (U' := U.calling g mk a) rfl z0⟩, va_recv hK hP (ci := 13) rfl (q0 := 2) rfl, fun U hU hW => ⟨rfl, by rw [hU], by rw [hU]; exact hPc, va_K.moved hW.alike hKc, hDc.weaken (fun _ _ _ _ => trivial), by rw [hU]; exact EX.warm hW ((hE.kept (fun a h1 h2 => hS.2.1 a h1 h2)).narrow hFc)⟩⟩ rfl rfl hl.1 rfl (lv_room (Nat.le_of_ble_eq_true rfl)) d_CU_number_144 ⟨(by show ((b - a) + 1) ≤ (4 + cns (L.drop a) (num (L.drop a))); omega), (by show ((286 * (b - a)) + 286) ≤ (174 + 286 * cns (L.drop a) (num (L.drop a))); omega)⟩) hS (fun q _ h => hFc q h) hFc (fun u21 ra24 t H1 locs ht hvm hw23 hB hz1 hk1 hS => ?_)
                  obtain ⟨x25, hP1, hK1, hD1⟩ := hB
                  rw [ht] at hP1
                  have hK1 := va_K.moved hvm.symm hK1
                  obtain ⟨w26, w27⟩ := u21
                  have hw23 : Bld (tx1 ++ [(L.getD b 0)]) w26 w27 := hw23
                  obtain ⟨hP, hD⟩ := zz_joinN (pre := [(x, .inr (1, [.ref dl, .int (nI L.length), .int (nI b), .ref sb])), (dl, .inl (cC, 160, .inl f)), (sb, .inr (13, [.ref bv1, .int 0, .int ml1, .int (nI tx1.length)])), (bv1, .inl (cB, cap1, .inl g1))]) (fz := fz) (wc := [(sb, .inr (13, [.ref bv1, .int 0, .int ml1, .int (nI tx1.length)])), (bv1, .inl (cB, cap1, .inl g1))]) (wr := [(x, .inr (1, [.ref dl, .int (nI L.length), .int (nI b), .ref sb])), (dl, .inl (cC, 160, .inl f))]) (w1 := [(sb, .inr (13, [.ref x25, .int 0, .int ml1, .int (nI (tx1 ++ [(L.getD b 0)]).length)])), (x25, .inl (cB, w26, .inl w27))]) hP hD [2, 3] [0, 1] rfl rfl (by decide) (by decide) hk1 hFc hP1 hD1
                  have hK := (hK.sub (tys' := [(cC, .char)]) [0] rfl).app hK1
                  generalize H1 = H at hP hS ⊢
                  have hP : va_P (dC, dI) vwCl ([(x, .inr (1, [.ref dl, .int (nI L.length), .int (nI b), .ref sb])), (dl, .inl (cC, 160, .inl f)), (sb, .inr (13, [.ref x25, .int 0, .int ml1, .int (nI (tx1 ++ [(L.getD b 0)]).length)])), (x25, .inl (cB, w26, .inl w27))] ++ fz) H := hP
                  have hD : va_D A ([(x, .inr (1, [.ref dl, .int (nI L.length), .int (nI b), .ref sb])), (dl, .inl (cC, 160, .inl f)), (sb, .inr (13, [.ref x25, .int 0, .int ml1, .int (nI (tx1 ++ [(L.getD b 0)]).length)])), (x25, .inl (cB, w26, .inl w27))] ++ fz) := hD
                  have hK : va_K (dC, dI) vwCl [(cC, .char), (cB, .byte)] s := hK
                  refine lv_pop hx hb d_CU_number_147 rfl ?_
                  refine lv_iinc (k := 2) (v := ((nI k) + Int32.ofInt 1)) hx hb d_CU_number_148 hl rfl rfl (by decide) rfl (fun ls hl => ?_)
                  have hl : lv_has ls 6 [(4, .int ((nI k) + Int32.ofInt 1)), (2, .long (lI (-((10 * v + (L.getD b 0 - 48) : Nat) : Int)))), (5, .int (nI (L.getD b 0 - 48))), (1, .int 0), (0, .ref x)] := hl
                  rw [show nI k + Int32.ofInt 1 = nI (k + 1) from nI_1 _] at hl
                  refine lv_aload_n hx hb d_CU_number_151 rfl (lv_at hl 4 rfl) ?_
                  refine lv_dup hx hb d_CU_number_152 rfl ?_
                  refine va_get (D := (dC, dI)) (ci := 1) (v := .int (nI b)) (C := R_CU) (T := T_CU) (N := 4) hx hb htb in_CU hown hK hP 0 rfl rfl 2 (by decide) (htb _ m_144) (fun _ h9 => h9) rfl d_CU_number_153 ?_
                  refine lv_iconst (v := 1) hx hb d_CU_number_156 (by decide) ?_
                  refine lv_iadd hx hb d_CU_number_157 ?_
                  refine W.eq (congrArg (fun z => F0 m 158 ls (.int z :: [.ref x])) (nI_1 _ : ((nI b) + 1) = nI (b + 1))) ?_
                  refine va_put (D := (dC, dI)) (ci := 1) (v := .int (nI (b + 1))) (ty := .int) (C := R_CU) (T := T_CU) (N := 4) hx hb htb in_CU ty_CU ty_CU_ok nm_CU hown hK hP hD hS 0 rfl rfl 2 (by decide) (htb _ m_144) (fun _ h9 => h9) rfl (by decide +kernel) rfl rfl (Nat.le_of_ble_eq_true rfl) d_CU_number_158 (fun H locs hP hD hS => ?_)
                  have hP : va_P (dC, dI) vwCl ([(x, .inr (1, [.ref dl, .int (nI L.length), .int (nI (b + 1)), .ref sb])), (dl, .inl (cC, 160, .inl f)), (sb, .inr (13, [.ref x25, .int 0, .int ml1, .int (nI (tx1 ++ [(L.getD b 0)]).length)])), (x25, .inl (cB, w26, .inl w27))] ++ fz) H := hP
                  have hD : va_D A ([(x, .inr (1, [.ref dl, .int (nI L.length), .int (nI (b + 1)), .ref sb])), (dl, .inl (cC, 160, .inl f)), (sb, .inr (13, [.ref x25, .int 0, .int ml1, .int (nI (tx1 ++ [(L.getD b 0)]).length)])), (x25, .inl (cB, w26, .inl w27))] ++ fz) := hD
                  refine lv_goto (tgt := 55) hx hb d_CU_number_161 rfl ?_
                  refine W.widen (k := ((b + 1) - a)) (n := (286 * ((b + 1) - a))) (by omega) (by omega) ?_
                  exact ih (L.length - (b + 1)) (by omega) (b + 1) x25 ml1 w26 w27 (tx1 ++ [L.getD b 0]) (k + 1) (10 * v + (L.getD b 0 - 48)) H locs ls rfl (by omega) (by omega) (hw23) (fun _ => hnx) (fun _ => num_text hi3 hi5 hi6 hd2 hk9z hi4) (fun _ => by by_cases hk0 : k = 0; have := hi5 hk0; have := hk9z hk0; omega; have := hi4 hk0; omega) (fun h => absurd h (Nat.succ_ne_zero _)) (fun h => absurd h (Nat.succ_ne_zero _)) (by omega) (by simp; omega) (by omega) (by omega) (lv_sub hl [0, 1, 3, 4] rfl) (zz_pickP (pre := [(x, .inr (1, [.ref dl, .int (nI L.length), .int (nI (b + 1)), .ref sb])), (dl, .inl (cC, 160, .inl f)), (sb, .inr (13, [.ref x25, .int 0, .int ml1, .int (nI (tx1 ++ [(L.getD b 0)]).length)])), (x25, .inl (cB, w26, .inl w27))]) (fz := fz) (wc := [(x, .inr (1, [.ref dl, .int (nI L.length), .int (nI (b + 1)), .ref sb])), (dl, .inl (cC, 160, .inl f)), (sb, .inr (13, [.ref x25, .int 0, .int ml1, .int (nI (tx1 ++ [L.getD b 0]).length)])), (x25, .inl (cB, w26, .inl w27))]) hP [0, 1, 2, 3] rfl) (zz_pickD (pre := [(x, .inr (1, [.ref dl, .int (nI L.length), .int (nI (b + 1)), .ref sb])), (dl, .inl (cC, 160, .inl f)), (sb, .inr (13, [.ref x25, .int 0, .int ml1, .int (nI (tx1 ++ [(L.getD b 0)]).length)])), (x25, .inl (cB, w26, .inl w27))]) (fz := fz) (wc := [(x, .inr (1, [.ref dl, .int (nI L.length), .int (nI (b + 1)), .ref sb])), (dl, .inl (cC, 160, .inl f)), (sb, .inr (13, [.ref x25, .int 0, .int ml1, .int (nI (tx1 ++ [L.getD b 0]).length)])), (x25, .inl (cB, w26, .inl w27))]) hD [0, 1, 2, 3] (by decide) rfl) hS
                · have hbig : 2 ^ 63 < 10 * v + (L.getD b 0 - 48) := nb_big2 h3 hd3 h4
                  have hno : num (L.drop a) = none := by rw [hall, drop_cons h1, numD_big hd1 hbig]; rfl
                  have hcs : cns (L.drop a) (num (L.drop a)) = L.length - a := by rw [hno]; exact hlen
                  refine lv_null hx hb d_CU_number_119 ?_
                  have hP9 := zz_pickP (pre := [(x, .inr (1, [.ref dl, .int (nI L.length), .int (nI b), .ref sb])), (dl, .inl (cC, 160, .inl f)), (sb, .inr (13, [.ref bv1, .int 0, .int ml1, .int (nI tx1.length)])), (bv1, .inl (cB, cap1, .inl g1))]) (fz := fz) (wc := [(x, .inr (1, [.ref dl, .int (nI L.length), .int (nI b), .ref sb])), (dl, .inl (cC, 160, .inl f)), (sb, .inr (13, [.ref bv1, .int 0, .int ml1, .int (nI tx1.length)])), (bv1, .inl (cB, cap1, .inl g1))]) hP [0, 1, 2, 3] rfl
                  have hD9 := zz_pickD (pre := [(x, .inr (1, [.ref dl, .int (nI L.length), .int (nI b), .ref sb])), (dl, .inl (cC, 160, .inl f)), (sb, .inr (13, [.ref bv1, .int 0, .int ml1, .int (nI tx1.length)])), (bv1, .inl (cB, cap1, .inl g1))]) (fz := fz) (wc := [(x, .inr (1, [.ref dl, .int (nI L.length), .int (nI b), .ref sb])), (dl, .inl (cC, 160, .inl f)), (sb, .inr (13, [.ref bv1, .int 0, .int ml1, .int (nI tx1.length)])), (bv1, .inl (cB, cap1, .inl g1))]) hD [0, 1, 2, 3] (by decide) rfl
                  have hK9 := hK.sub (tys' := [(cC, .char), (cB, .byte)]) [0, 1] rfl
                  rw [hQ]
                  refine W.widen (k := (4 + cns (L.drop a) (num (L.drop a)))) (n := (174 + 286 * cns (L.drop a) (num (L.drop a)))) ((by show (b - a) ≤ (4 + cns (L.drop a) (num (L.drop a))); omega)) ((by show (286 * (b - a)) ≤ (174 + 286 * cns (L.drop a) (num (L.drop a))); omega)) ?_
                  exact W.aret (v := .null) hx hb hr (Or.inl ⟨_, rfl⟩) (Or.inl rfl) (fun t ht hW => ⟨⟨none, (b, ml1, tx1, cap1, g1, []), rfl, ⟨hiB, by omega, by omega, Or.inl ⟨rfl, hno, rfl⟩⟩, ⟨bv1, by rw [ht]; exact hP9, va_K.moved hW.alike hK9, hD9⟩⟩, hS.F ht⟩) hS.2.2 d_CU_number_120
      refine W.widen (k := (a - a)) (n := (286 * (a - a))) (by omega) (by omega) ?_
      exact hloop _ a bv u15 cap g ([]) 0 0 _ _ ls rfl (Nat.le_refl _) (by omega) (bld_nil hB) (fun h => absurd rfl h) (fun h => absurd rfl h) (fun h => absurd rfl h) (fun _ => rfl) (fun _ => rfl) (by omega) (by simp) (by decide) (by omega) (lv_sub hl [0, 1, 2, 3] rfl) (zz_pickP (pre := [(x, .inr (1, [.ref dl, .int (nI L.length), .int (nI a), .ref sb])), (dl, .inl (cC, 160, .inl f)), (sb, .inr (13, [.ref bv, .int 0, .int u15, .int 0])), (bv, .inl (cB, cap, .inl g))]) (fz := fz) (wc := [(x, .inr (1, [.ref dl, .int (nI L.length), .int (nI a), .ref sb])), (dl, .inl (cC, 160, .inl f)), (sb, .inr (13, [.ref bv, .int 0, .int u15, .int (nI ([]).length)])), (bv, .inl (cB, cap, .inl g))]) hP [0, 1, 2, 3] rfl) (zz_pickD (pre := [(x, .inr (1, [.ref dl, .int (nI L.length), .int (nI a), .ref sb])), (dl, .inl (cC, 160, .inl f)), (sb, .inr (13, [.ref bv, .int 0, .int u15, .int 0])), (bv, .inl (cB, cap, .inl g))]) (fz := fz) (wc := [(x, .inr (1, [.ref dl, .int (nI L.length), .int (nI a), .ref sb])), (dl, .inl (cC, 160, .inl f)), (sb, .inr (13, [.ref bv, .int 0, .int u15, .int (nI ([]).length)])), (bv, .inl (cB, cap, .inl g))]) hD [0, 1, 2, 3] (by decide) rfl) hS
