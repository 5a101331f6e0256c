set_option maxHeartbeats 1000000 in
set_option maxRecDepth 100000 in
theorem whole_start {p : Program} {e : Env} {s : State} {m : MethodId} {below : List Frame} {meth : Method} {c : Code} (l : Launch) {b L : Nat} {xs : Nat → Int32} (hL : L ≤ 5) (C0 : lw_At p s m meth c b L xs) : W p l e room_1 s m #[Value.ref b] below meth c s.heap [] 0 0 (lw_Z below #[Value.ref b] s) (entryFrame m ([Value.ref b] : List Value).toArray 4) := by
  obtain ⟨hx, hb, hr, hml, hown, hts, hX, hbz, hlocks, hgv⟩ := C0
  have hown : s.vm.findClass R_LA = some m.cls := hown
  have hb : c.code = c_LA_law := hb
  have htb : ∀ w ∈ TBL, w.before #[Value.ref b] s = true := fun w h => hts w (tb_in h)
  obtain ⟨em, aK, aV, hE⟩ := start_env hts hgv
  obtain ⟨dC, hdC⟩ := Classical.axiomOfChoice (kn_all htb)
  obtain ⟨dI, hdI⟩ := Classical.axiomOfChoice hdC
  have hK : va_K (dC, dI) vwCl [] s := ⟨fun c q hq => hdI c q hq, fun k q hq => absurd hq (by simp)⟩
  have hbA : ¬ (fun q => s.heap.size ≤ q) b := fun h => absurd hbz (Nat.not_lt.mpr h)
  have hLb : L < 2 ^ 31 := by omega
  have hAq0 : ∀ q : Nat, (fun q => s.heap.size ≤ q) q → s.heap.size ≤ q := fun q h => h
  have hA0 : ∀ q : Nat, s.heap.size ≤ q → (fun q => s.heap.size ≤ q) q := fun q h => h
  have hS : va_S (fun q => s.heap.size ≤ q) s.heap s.heap [] := va_S.rf
  have hP : va_P (dC, dI) vwCl [] s.heap := fun k q hq => absurd hq (by simp)
  have hD : va_D (fun q => s.heap.size ≤ q) [] := ⟨fun i j p q hp => absurd hp (by simp), fun k q hq => absurd hq (by simp)⟩
  have hl := lv_entry ([.ref b]) (n := 4) (Nat.le_of_ble_eq_true rfl)
  rw [lg_entry_eq]
  generalize (lg_sl ([.ref b]) ++ List.replicate (4 - (lg_sl ([.ref b])).length) Slot.unset).toArray = ls at hl ⊢
  have hl : lv_has ls 4 [(0, .ref b)] := hl
  generalize hAe : (fun q => s.heap.size ≤ q) = A at hE hS hD hbA hA0 hAq0
  have hAq : ∀ q : Nat, A q → s.heap.size ≤ q := hAq0
  have hA : ∀ q : Nat, s.heap.size ≤ q → A q := hA0
  refine va_new (ci := 0) (fs := [.int 0, .int 0, .null, .int 0, .null, .null, .null, .null]) (C := R_PS) (T := T_PS) (N := 8) hx hb htb in_PS ty_PS ty_PS_ok hown (htb _ m_29) (htb _ m_30) (htb _ m_1) hK hP hD hS hA rfl (fun j hj => by rcases (show j = 0 ∨ j = 1 ∨ j = 2 ∨ j = 3 ∨ j = 4 ∨ j = 5 ∨ j = 6 ∨ j = 7 by omega) with rfl | rfl | rfl | rfl | rfl | rfl | rfl | rfl <;> rfl) (Nat.le_of_ble_eq_true rfl) (Nat.le_of_ble_eq_true rfl) d_LA_law_0 (fun x H hP hD hS => ?_)
  have hP : va_P (dC, dI) vwCl [(x, .inr (0, [.int 0, .int 0, .null, .int 0, .null, .null, .null, .null]))] H := hP
  have hD : va_D A [(x, .inr (0, [.int 0, .int 0, .null, .int 0, .null, .null, .null, .null]))] := hD
  refine W.widen (k := 1) (n := 8) (Nat.le_of_ble_eq_true rfl) (Nat.le_of_ble_eq_true rfl) ?_
  refine lv_dup hx hb d_LA_law_3 rfl ?_
  refine lv_aload_n hx hb d_LA_law_4 rfl (lv_at hl 0 rfl) ?_
  refine lv_iconst (v := 0) hx hb d_LA_law_5 (by decide) ?_
  have hPc := hP.sub (ws' := []) [] rfl
  have hDc := hD.sub (ws' := []) [] (by decide) rfl
  have hKc := hK.sub (tys' := []) [] rfl
  have hFc := va_free (wc := []) hD hS hA [] rfl
  refine va_calli (va_runS (As := [.ref b, .int 0]) (rest := [.ref x, .ref x]) ⟨hx, hb, hml, hown, htb⟩ (k_LA_cell l dC dI _ b L xs 0 0 rfl (by decide) hLb) (va_cwS 2 htb (g_S (fun _ h => h) m_1132 m_1130 m_1131 m_0) rfl rfl rfl (by decide +kernel) ⟨Nat.le_of_ble_eq_true rfl, Nat.le_of_ble_eq_true rfl⟩) ⟨fun a U g mk q => by obtain ⟨q0, q1, qP, qK, qD, z0, z1⟩ := q; exact ⟨q0, q1, qP, va_K.moved (u := U) (U := U.calling g mk a) (Vm.Alike.refl U.vm) qK, qD, va_X.moved (Vm.Alike.refl U.vm) z0, z1⟩, fun U hU hW => ⟨rfl, by rw [hU], by rw [hU]; exact hPc, va_K.moved hW.alike hKc, hDc.weaken (fun _ _ _ _ => trivial), by rw [hU]; exact va_X.moved hW.alike (hX.kept (hS.2.1 _ hbz hbA)), by rw [hU]; exact Nat.lt_of_lt_of_le hbz hS.1⟩⟩ rfl rfl hl.1 rfl (lv_room (Nat.le_of_ble_eq_true rfl)) d_LA_law_6 ⟨Nat.le_of_ble_eq_true rfl, Nat.le_of_ble_eq_true rfl⟩) hS (fun q _ h => hFc q h) hFc (fun r2 u1 t H1 locs ht hvm hw3 hB hz1 hk1 hS => ?_)
  obtain ⟨hP1, hK1, hD1⟩ := hB
  rw [ht] at hP1
  have hK1 := va_K.moved hvm.symm hK1
  have hw3 : r2 = cellv xs L 0 := hw3
  obtain ⟨hP, hD⟩ := va_join (wr := [(x, .inr (0, [.int 0, .int 0, .null, .int 0, .null, .null, .null, .null]))]) (w1 := []) hP hD [] [0] rfl rfl (by decide) (by decide) hk1 hFc hP1 hD1
  have hK := (hK.sub (tys' := []) [] rfl).app hK1
  generalize H1 = H at hP hS ⊢
  have hP : va_P (dC, dI) vwCl [(x, .inr (0, [.int 0, .int 0, .null, .int 0, .null, .null, .null, .null]))] H := hP
  have hD : va_D A [(x, .inr (0, [.int 0, .int 0, .null, .int 0, .null, .null, .null, .null]))] := hD
  have hK : va_K (dC, dI) vwCl [] s := hK
  refine lv_aload_n hx hb d_LA_law_9 rfl (lv_at hl 0 rfl) ?_
  refine lv_iconst (v := 1) hx hb d_LA_law_10 (by decide) ?_
  have hPc := hP.sub (ws' := []) [] rfl
  have hDc := hD.sub (ws' := []) [] (by decide) rfl
  have hKc := hK.sub (tys' := []) [] rfl
  have hFc := va_free (wc := []) hD hS hA [] rfl
  refine va_calli (va_runS (As := [.ref b, .int 1]) (rest := [.int r2, .ref x, .ref x]) ⟨hx, hb, hml, hown, htb⟩ (k_LA_cell l dC dI _ b L xs 1 1 rfl (by decide) hLb) (va_cwS 2 htb (g_S (fun _ h => h) m_1132 m_1130 m_1131 m_0) rfl rfl rfl (by decide +kernel) ⟨Nat.le_of_ble_eq_true rfl, Nat.le_of_ble_eq_true rfl⟩) ⟨fun a U g mk q => by obtain ⟨q0, q1, qP, qK, qD, z0, z1⟩ := q; exact ⟨q0, q1, qP, va_K.moved (u := U) (U := U.calling g mk a) (Vm.Alike.refl U.vm) qK, qD, va_X.moved (Vm.Alike.refl U.vm) z0, z1⟩, fun U hU hW => ⟨rfl, by rw [hU], by rw [hU]; exact hPc, va_K.moved hW.alike hKc, hDc.weaken (fun _ _ _ _ => trivial), by rw [hU]; exact va_X.moved hW.alike (hX.kept (hS.2.1 _ hbz hbA)), by rw [hU]; exact Nat.lt_of_lt_of_le hbz hS.1⟩⟩ rfl rfl hl.1 rfl (lv_room (Nat.le_of_ble_eq_true rfl)) d_LA_law_11 ⟨Nat.le_of_ble_eq_true rfl, Nat.le_of_ble_eq_true rfl⟩) hS (fun q _ h => hFc q h) hFc (fun r6 u5 t H1 locs ht hvm hw7 hB hz1 hk1 hS => ?_)
  obtain ⟨hP1, hK1, hD1⟩ := hB
  rw [ht] at hP1
  have hK1 := va_K.moved hvm.symm hK1
  have hw7 : r6 = cellv xs L 1 := hw7
  obtain ⟨hP, hD⟩ := va_join (wr := [(x, .inr (0, [.int 0, .int 0, .null, .int 0, .null, .null, .null, .null]))]) (w1 := []) hP hD [] [0] rfl rfl (by decide) (by decide) hk1 hFc hP1 hD1
  have hK := (hK.sub (tys' := []) [] rfl).app hK1
  generalize H1 = H at hP hS ⊢
  have hP : va_P (dC, dI) vwCl [(x, .inr (0, [.int 0, .int 0, .null, .int 0, .null, .null, .null, .null]))] H := hP
  have hD : va_D A [(x, .inr (0, [.int 0, .int 0, .null, .int 0, .null, .null, .null, .null]))] := hD
  have hK : va_K (dC, dI) vwCl [] s := hK
  have hPc := hP.sub (ws' := [(x, .inr (0, [.int 0, .int 0, .null, .int 0, .null, .null, .null, .null]))]) [0] rfl
  have hDc := hD.sub (ws' := [(x, .inr (0, [.int 0, .int 0, .null, .int 0, .null, .null, .null, .null]))]) [0] (by decide) rfl
  have hKc := hK.sub (tys' := []) [] rfl
  have hFc := va_free (wc := [(x, .inr (0, [.int 0, .int 0, .null, .int 0, .null, .null, .null, .null]))]) hD hS hA [0] rfl
  refine va_callv (va_runI (As := [.int r2, .int r6]) (rest := [.ref x]) ⟨hx, hb, hml, hown, htb⟩ (k_PS_init l dC dI _ x r2 r6 em aK aV ) (cwI 2 htb (g_all (fun _ h => h) m_33) rfl rfl rfl (htb _ m_1) (htb _ m_31) (htb _ m_32) rfl (by decide +kernel) ⟨Nat.le_of_ble_eq_true rfl, Nat.le_of_ble_eq_true rfl⟩) ⟨fun a U g mk q => by obtain ⟨q0, q1, qP, qK, qD, z0⟩ := q; exact ⟨q0, q1, qP, va_K.moved (u := U) (U := U.calling g mk a) (Vm.Alike.refl U.vm) qK, qD, EX.same (U := U) (U' := U.calling g mk a) rfl z0⟩, fun U hU hW => ⟨rfl, by rw [hU], by rw [hU]; exact hPc, va_K.moved hW.alike hKc, hDc.weaken (fun _ _ _ _ => trivial), by rw [hU]; exact EX.warm hW ((hE.kept (fun a h1 h2 => hS.2.1 a h1 h2)).narrow hFc)⟩⟩ rfl rfl hl.1 rfl (lv_room (Nat.le_of_ble_eq_true rfl)) d_LA_law_14 ⟨Nat.le_of_ble_eq_true rfl, Nat.le_of_ble_eq_true rfl⟩) hS (fun q _ h => hFc q h) hFc (fun u9 t H1 locs ht hvm hw11 hB hz1 hk1 hS => ?_)
  obtain ⟨x13, x14, x15, x16, x17, x18, x19, x20, x21, x22, hP1, hK1, hD1⟩ := hB
  rw [ht] at hP1
  have hK1 := va_K.moved hvm.symm hK1
  have hw11 : True := hw11
  obtain ⟨hP, hD⟩ := va_join (wr := []) (w1 := [(x, .inr (0, [.int (1 + (r2 &&& 7)), .int (1 + (r6 &&& 31)), .ref x13, .int 0, .ref x14, .ref x15, .ref x16, .ref x17])), (x13, .inl (x19, 160, .inl (fun _ => 0))), (x14, .inr (13, [.ref x18, .int 0, .int 0, .int 0])), (x18, .inl (x20, 16, .inl (fun _ => 0))), (x15, .inl (x21, 3, .inr (.inr (.inr (.inr (fun _ => none)))))), (x16, .inl (x22, 3, .inr (.inr (.inr (.inr (fun _ => none)))))), (x17, .inr (14, [.ref em, .int 0, .int 0]))]) hP hD [0] [] rfl rfl (by decide) (by decide) hk1 hFc hP1 hD1
  have hK := (hK.sub (tys' := []) [] rfl).app hK1
  generalize H1 = H at hP hS ⊢
  have hP : va_P (dC, dI) vwCl [(x, .inr (0, [.int (1 + (r2 &&& 7)), .int (1 + (r6 &&& 31)), .ref x13, .int 0, .ref x14, .ref x15, .ref x16, .ref x17])), (x13, .inl (x19, 160, .inl (fun _ => 0))), (x14, .inr (13, [.ref x18, .int 0, .int 0, .int 0])), (x18, .inl (x20, 16, .inl (fun _ => 0))), (x15, .inl (x21, 3, .inr (.inr (.inr (.inr (fun _ => none)))))), (x16, .inl (x22, 3, .inr (.inr (.inr (.inr (fun _ => none)))))), (x17, .inr (14, [.ref em, .int 0, .int 0]))] H := hP
  have hD : va_D A [(x, .inr (0, [.int (1 + (r2 &&& 7)), .int (1 + (r6 &&& 31)), .ref x13, .int 0, .ref x14, .ref x15, .ref x16, .ref x17])), (x13, .inl (x19, 160, .inl (fun _ => 0))), (x14, .inr (13, [.ref x18, .int 0, .int 0, .int 0])), (x18, .inl (x20, 16, .inl (fun _ => 0))), (x15, .inl (x21, 3, .inr (.inr (.inr (.inr (fun _ => none)))))), (x16, .inl (x22, 3, .inr (.inr (.inr (.inr (fun _ => none)))))), (x17, .inr (14, [.ref em, .int 0, .int 0]))] := hD
  have hK : va_K (dC, dI) vwCl [(x19, .char), (x20, .byte), (x21, .object "PatchStore$Value"), (x22, .object "PatchStore$Value")] s := hK
  refine W.widen (k := 7) (n := 197) (Nat.le_of_ble_eq_true rfl) (Nat.le_of_ble_eq_true rfl) ?_
  refine lv_astore_n hx hb d_LA_law_17 rfl hl (by decide) rfl (fun ls hl => ?_)
  have hl : lv_has ls 4 [(1, .ref x), (0, .ref b)] := hl
  refine va_new (ci := 12) (fs := [.int 0, .int 0, .null, .null, .null, .null, .null, .null, .null, .null, .null, .int 0, .null, .int 0, .int 0, .int 0, .null, .int 0, .int 0, .int 0, .null, .int 0, .int 0, .int 0, .int 0, .long 0, .null, .null, .null, .int 0, .int 0, .int 0, .int 0, .int 0, .int 0, .null, .int 0, .int 0, .int 0, .null, .null]) (C := R_MO) (T := T_MO) (N := 41) hx hb htb in_MO ty_MO ty_MO_ok hown (htb _ m_1133) (htb _ m_1134) (htb _ m_9) hK hP hD hS hA rfl (by decide +kernel) (Nat.le_of_ble_eq_true rfl) (Nat.le_of_ble_eq_true rfl) d_LA_law_18 (fun y H hP hD hS => ?_)
  have hP : va_P (dC, dI) vwCl [(x, .inr (0, [.int (1 + (r2 &&& 7)), .int (1 + (r6 &&& 31)), .ref x13, .int 0, .ref x14, .ref x15, .ref x16, .ref x17])), (x13, .inl (x19, 160, .inl (fun _ => 0))), (x14, .inr (13, [.ref x18, .int 0, .int 0, .int 0])), (x18, .inl (x20, 16, .inl (fun _ => 0))), (x15, .inl (x21, 3, .inr (.inr (.inr (.inr (fun _ => none)))))), (x16, .inl (x22, 3, .inr (.inr (.inr (.inr (fun _ => none)))))), (x17, .inr (14, [.ref em, .int 0, .int 0])), (y, .inr (12, [.int 0, .int 0, .null, .null, .null, .null, .null, .null, .null, .null, .null, .int 0, .null, .int 0, .int 0, .int 0, .null, .int 0, .int 0, .int 0, .null, .int 0, .int 0, .int 0, .int 0, .long 0, .null, .null, .null, .int 0, .int 0, .int 0, .int 0, .int 0, .int 0, .null, .int 0, .int 0, .int 0, .null, .null]))] H := hP
  have hD : va_D A [(x, .inr (0, [.int (1 + (r2 &&& 7)), .int (1 + (r6 &&& 31)), .ref x13, .int 0, .ref x14, .ref x15, .ref x16, .ref x17])), (x13, .inl (x19, 160, .inl (fun _ => 0))), (x14, .inr (13, [.ref x18, .int 0, .int 0, .int 0])), (x18, .inl (x20, 16, .inl (fun _ => 0))), (x15, .inl (x21, 3, .inr (.inr (.inr (.inr (fun _ => none)))))), (x16, .inl (x22, 3, .inr (.inr (.inr (.inr (fun _ => none)))))), (x17, .inr (14, [.ref em, .int 0, .int 0])), (y, .inr (12, [.int 0, .int 0, .null, .null, .null, .null, .null, .null, .null, .null, .null, .int 0, .null, .int 0, .int 0, .int 0, .null, .int 0, .int 0, .int 0, .null, .int 0, .int 0, .int 0, .int 0, .long 0, .null, .null, .null, .int 0, .int 0, .int 0, .int 0, .int 0, .int 0, .null, .int 0, .int 0, .int 0, .null, .null]))] := hD
  refine W.widen (k := 8) (n := 238) (Nat.le_of_ble_eq_true rfl) (Nat.le_of_ble_eq_true rfl) ?_
  refine lv_dup hx hb d_LA_law_21 rfl ?_
  refine lv_aload_n hx hb d_LA_law_22 rfl (lv_at hl 1 rfl) ?_
  refine lv_iconst (v := 0) hx hb d_LA_law_23 (by decide) ?_
  have hPc := hP.sub (ws' := []) [] rfl
  have hDc := hD.sub (ws' := []) [] (by decide) rfl
  have hKc := hK.sub (tys' := []) [] rfl
  have hFc := va_free (wc := []) hD hS hA [] rfl
  refine va_calli (va_runS (As := [.ref b, .int 0]) (rest := [.ref y, .ref y]) ⟨hx, hb, hml, hown, htb⟩ (k_LA_cell l dC dI _ b L xs 0 0 rfl (by decide) hLb) (va_cwS 2 htb (g_S (fun _ h => h) m_1132 m_1130 m_1131 m_0) rfl rfl rfl (by decide +kernel) ⟨Nat.le_of_ble_eq_true rfl, Nat.le_of_ble_eq_true rfl⟩) ⟨fun a U g mk q => by obtain ⟨q0, q1, qP, qK, qD, z0, z1⟩ := q; exact ⟨q0, q1, qP, va_K.moved (u := U) (U := U.calling g mk a) (Vm.Alike.refl U.vm) qK, qD, va_X.moved (Vm.Alike.refl U.vm) z0, z1⟩, fun U hU hW => ⟨rfl, by rw [hU], by rw [hU]; exact hPc, va_K.moved hW.alike hKc, hDc.weaken (fun _ _ _ _ => trivial), by rw [hU]; exact va_X.moved hW.alike (hX.kept (hS.2.1 _ hbz hbA)), by rw [hU]; exact Nat.lt_of_lt_of_le hbz hS.1⟩⟩ rfl rfl hl.1 rfl (lv_room (Nat.le_of_ble_eq_true rfl)) d_LA_law_24 ⟨Nat.le_of_ble_eq_true rfl, Nat.le_of_ble_eq_true rfl⟩) hS (fun q _ h => hFc q h) hFc (fun r24 u23 t H1 locs ht hvm hw25 hB hz1 hk1 hS => ?_)
  obtain ⟨hP1, hK1, hD1⟩ := hB
  rw [ht] at hP1
  have hK1 := va_K.moved hvm.symm hK1
  have hw25 : r24 = cellv xs L 0 := hw25
  obtain ⟨hP, hD⟩ := va_join (wr := [(x, .inr (0, [.int (1 + (r2 &&& 7)), .int (1 + (r6 &&& 31)), .ref x13, .int 0, .ref x14, .ref x15, .ref x16, .ref x17])), (x13, .inl (x19, 160, .inl (fun _ => 0))), (x14, .inr (13, [.ref x18, .int 0, .int 0, .int 0])), (x18, .inl (x20, 16, .inl (fun _ => 0))), (x15, .inl (x21, 3, .inr (.inr (.inr (.inr (fun _ => none)))))), (x16, .inl (x22, 3, .inr (.inr (.inr (.inr (fun _ => none)))))), (x17, .inr (14, [.ref em, .int 0, .int 0])), (y, .inr (12, [.int 0, .int 0, .null, .null, .null, .null, .null, .null, .null, .null, .null, .int 0, .null, .int 0, .int 0, .int 0, .null, .int 0, .int 0, .int 0, .null, .int 0, .int 0, .int 0, .int 0, .long 0, .null, .null, .null, .int 0, .int 0, .int 0, .int 0, .int 0, .int 0, .null, .int 0, .int 0, .int 0, .null, .null]))]) (w1 := []) hP hD [] [0, 1, 2, 3, 4, 5, 6, 7] rfl rfl (by decide) (by decide) hk1 hFc hP1 hD1
  have hK := (hK.sub (tys' := [(x19, .char), (x20, .byte), (x21, .object "PatchStore$Value"), (x22, .object "PatchStore$Value")]) [0, 1, 2, 3] rfl).app hK1
  generalize H1 = H at hP hS ⊢
  have hP : va_P (dC, dI) vwCl [(x, .inr (0, [.int (1 + (r2 &&& 7)), .int (1 + (r6 &&& 31)), .ref x13, .int 0, .ref x14, .ref x15, .ref x16, .ref x17])), (x13, .inl (x19, 160, .inl (fun _ => 0))), (x14, .inr (13, [.ref x18, .int 0, .int 0, .int 0])), (x18, .inl (x20, 16, .inl (fun _ => 0))), (x15, .inl (x21, 3, .inr (.inr (.inr (.inr (fun _ => none)))))), (x16, .inl (x22, 3, .inr (.inr (.inr (.inr (fun _ => none)))))), (x17, .inr (14, [.ref em, .int 0, .int 0])), (y, .inr (12, [.int 0, .int 0, .null, .null, .null, .null, .null, .null, .null, .null, .null, .int 0, .null, .int 0, .int 0, .int 0, .null, .int 0, .int 0, .int 0, .null, .int 0, .int 0, .int 0, .int 0, .long 0, .null, .null, .null, .int 0, .int 0, .int 0, .int 0, .int 0, .int 0, .null, .int 0, .int 0, .int 0, .null, .null]))] H := hP
  have hD : va_D A [(x, .inr (0, [.int (1 + (r2 &&& 7)), .int (1 + (r6 &&& 31)), .ref x13, .int 0, .ref x14, .ref x15, .ref x16, .ref x17])), (x13, .inl (x19, 160, .inl (fun _ => 0))), (x14, .inr (13, [.ref x18, .int 0, .int 0, .int 0])), (x18, .inl (x20, 16, .inl (fun _ => 0))), (x15, .inl (x21, 3, .inr (.inr (.inr (.inr (fun _ => none)))))), (x16, .inl (x22, 3, .inr (.inr (.inr (.inr (fun _ => none)))))), (x17, .inr (14, [.ref em, .int 0, .int 0])), (y, .inr (12, [.int 0, .int 0, .null, .null, .null, .null, .null, .null, .null, .null, .null, .int 0, .null, .int 0, .int 0, .int 0, .null, .int 0, .int 0, .int 0, .null, .int 0, .int 0, .int 0, .int 0, .long 0, .null, .null, .null, .int 0, .int 0, .int 0, .int 0, .int 0, .int 0, .null, .int 0, .int 0, .int 0, .null, .null]))] := hD
  have hK : va_K (dC, dI) vwCl [(x19, .char), (x20, .byte), (x21, .object "PatchStore$Value"), (x22, .object "PatchStore$Value")] s := hK
  refine lv_aload_n hx hb d_LA_law_27 rfl (lv_at hl 1 rfl) ?_
  refine lv_iconst (v := 1) hx hb d_LA_law_28 (by decide) ?_
  have hPc := hP.sub (ws' := []) [] rfl
  have hDc := hD.sub (ws' := []) [] (by decide) rfl
  have hKc := hK.sub (tys' := []) [] rfl
  have hFc := va_free (wc := []) hD hS hA [] rfl
  refine va_calli (va_runS (As := [.ref b, .int 1]) (rest := [.int r24, .ref y, .ref y]) ⟨hx, hb, hml, hown, htb⟩ (k_LA_cell l dC dI _ b L xs 1 1 rfl (by decide) hLb) (va_cwS 2 htb (g_S (fun _ h => h) m_1132 m_1130 m_1131 m_0) rfl rfl rfl (by decide +kernel) ⟨Nat.le_of_ble_eq_true rfl, Nat.le_of_ble_eq_true rfl⟩) ⟨fun a U g mk q => by obtain ⟨q0, q1, qP, qK, qD, z0, z1⟩ := q; exact ⟨q0, q1, qP, va_K.moved (u := U) (U := U.calling g mk a) (Vm.Alike.refl U.vm) qK, qD, va_X.moved (Vm.Alike.refl U.vm) z0, z1⟩, fun U hU hW => ⟨rfl, by rw [hU], by rw [hU]; exact hPc, va_K.moved hW.alike hKc, hDc.weaken (fun _ _ _ _ => trivial), by rw [hU]; exact va_X.moved hW.alike (hX.kept (hS.2.1 _ hbz hbA)), by rw [hU]; exact Nat.lt_of_lt_of_le hbz hS.1⟩⟩ rfl rfl hl.1 rfl (lv_room (Nat.le_of_ble_eq_true rfl)) d_LA_law_29 ⟨Nat.le_of_ble_eq_true rfl, Nat.le_of_ble_eq_true rfl⟩) hS (fun q _ h => hFc q h) hFc (fun r28 u27 t H1 locs ht hvm hw29 hB hz1 hk1 hS => ?_)
  obtain ⟨hP1, hK1, hD1⟩ := hB
  rw [ht] at hP1
  have hK1 := va_K.moved hvm.symm hK1
  have hw29 : r28 = cellv xs L 1 := hw29
  obtain ⟨hP, hD⟩ := va_join (wr := [(x, .inr (0, [.int (1 + (r2 &&& 7)), .int (1 + (r6 &&& 31)), .ref x13, .int 0, .ref x14, .ref x15, .ref x16, .ref x17])), (x13, .inl (x19, 160, .inl (fun _ => 0))), (x14, .inr (13, [.ref x18, .int 0, .int 0, .int 0])), (x18, .inl (x20, 16, .inl (fun _ => 0))), (x15, .inl (x21, 3, .inr (.inr (.inr (.inr (fun _ => none)))))), (x16, .inl (x22, 3, .inr (.inr (.inr (.inr (fun _ => none)))))), (x17, .inr (14, [.ref em, .int 0, .int 0])), (y, .inr (12, [.int 0, .int 0, .null, .null, .null, .null, .null, .null, .null, .null, .null, .int 0, .null, .int 0, .int 0, .int 0, .null, .int 0, .int 0, .int 0, .null, .int 0, .int 0, .int 0, .int 0, .long 0, .null, .null, .null, .int 0, .int 0, .int 0, .int 0, .int 0, .int 0, .null, .int 0, .int 0, .int 0, .null, .null]))]) (w1 := []) hP hD [] [0, 1, 2, 3, 4, 5, 6, 7] rfl rfl (by decide) (by decide) hk1 hFc hP1 hD1
  have hK := (hK.sub (tys' := [(x19, .char), (x20, .byte), (x21, .object "PatchStore$Value"), (x22, .object "PatchStore$Value")]) [0, 1, 2, 3] rfl).app hK1
  generalize H1 = H at hP hS ⊢
  have hP : va_P (dC, dI) vwCl [(x, .inr (0, [.int (1 + (r2 &&& 7)), .int (1 + (r6 &&& 31)), .ref x13, .int 0, .ref x14, .ref x15, .ref x16, .ref x17])), (x13, .inl (x19, 160, .inl (fun _ => 0))), (x14, .inr (13, [.ref x18, .int 0, .int 0, .int 0])), (x18, .inl (x20, 16, .inl (fun _ => 0))), (x15, .inl (x21, 3, .inr (.inr (.inr (.inr (fun _ => none)))))), (x16, .inl (x22, 3, .inr (.inr (.inr (.inr (fun _ => none)))))), (x17, .inr (14, [.ref em, .int 0, .int 0])), (y, .inr (12, [.int 0, .int 0, .null, .null, .null, .null, .null, .null, .null, .null, .null, .int 0, .null, .int 0, .int 0, .int 0, .null, .int 0, .int 0, .int 0, .null, .int 0, .int 0, .int 0, .int 0, .long 0, .null, .null, .null, .int 0, .int 0, .int 0, .int 0, .int 0, .int 0, .null, .int 0, .int 0, .int 0, .null, .null]))] H := hP
  have hD : va_D A [(x, .inr (0, [.int (1 + (r2 &&& 7)), .int (1 + (r6 &&& 31)), .ref x13, .int 0, .ref x14, .ref x15, .ref x16, .ref x17])), (x13, .inl (x19, 160, .inl (fun _ => 0))), (x14, .inr (13, [.ref x18, .int 0, .int 0, .int 0])), (x18, .inl (x20, 16, .inl (fun _ => 0))), (x15, .inl (x21, 3, .inr (.inr (.inr (.inr (fun _ => none)))))), (x16, .inl (x22, 3, .inr (.inr (.inr (.inr (fun _ => none)))))), (x17, .inr (14, [.ref em, .int 0, .int 0])), (y, .inr (12, [.int 0, .int 0, .null, .null, .null, .null, .null, .null, .null, .null, .null, .int 0, .null, .int 0, .int 0, .int 0, .null, .int 0, .int 0, .int 0, .null, .int 0, .int 0, .int 0, .int 0, .long 0, .null, .null, .null, .int 0, .int 0, .int 0, .int 0, .int 0, .int 0, .null, .int 0, .int 0, .int 0, .null, .null]))] := hD
  have hK : va_K (dC, dI) vwCl [(x19, .char), (x20, .byte), (x21, .object "PatchStore$Value"), (x22, .object "PatchStore$Value")] s := hK
  have hPc := hP.sub (ws' := [(y, .inr (12, [.int 0, .int 0, .null, .null, .null, .null, .null, .null, .null, .null, .null, .int 0, .null, .int 0, .int 0, .int 0, .null, .int 0, .int 0, .int 0, .null, .int 0, .int 0, .int 0, .int 0, .long 0, .null, .null, .null, .int 0, .int 0, .int 0, .int 0, .int 0, .int 0, .null, .int 0, .int 0, .int 0, .null, .null]))]) [7] rfl
  have hDc := hD.sub (ws' := [(y, .inr (12, [.int 0, .int 0, .null, .null, .null, .null, .null, .null, .null, .null, .null, .int 0, .null, .int 0, .int 0, .int 0, .null, .int 0, .int 0, .int 0, .null, .int 0, .int 0, .int 0, .int 0, .long 0, .null, .null, .null, .int 0, .int 0, .int 0, .int 0, .int 0, .int 0, .null, .int 0, .int 0, .int 0, .null, .null]))]) [7] (by decide) rfl
  have hKc := hK.sub (tys' := []) [] rfl
  have hFc := va_free (wc := [(y, .inr (12, [.int 0, .int 0, .null, .null, .null, .null, .null, .null, .null, .null, .null, .int 0, .null, .int 0, .int 0, .int 0, .null, .int 0, .int 0, .int 0, .null, .int 0, .int 0, .int 0, .int 0, .long 0, .null, .null, .null, .int 0, .int 0, .int 0, .int 0, .int 0, .int 0, .null, .int 0, .int 0, .int 0, .null, .null]))]) hD hS hA [7] rfl
  refine va_callv (va_runI (As := [.int r24, .int r28]) (rest := [.ref y]) ⟨hx, hb, hml, hown, htb⟩ (k_MO_init l dC dI _ y r24 r28 ) (cwI 2 htb (g_all (fun _ h => h) m_1137) rfl rfl rfl (htb _ m_9) (htb _ m_1135) (htb _ m_1136) rfl (by decide +kernel) ⟨Nat.le_of_ble_eq_true rfl, Nat.le_of_ble_eq_true rfl⟩) ⟨fun a U g mk q => by obtain ⟨q0, q1, qP, qK, qD⟩ := q; exact ⟨q0, q1, qP, va_K.moved (u := U) (U := U.calling g mk a) (Vm.Alike.refl U.vm) qK, qD⟩, fun U hU hW => ⟨rfl, by rw [hU], by rw [hU]; exact hPc, va_K.moved hW.alike hKc, hDc.weaken (fun _ _ _ _ => trivial)⟩⟩ rfl rfl hl.1 rfl (lv_room (Nat.le_of_ble_eq_true rfl)) d_LA_law_32 ⟨Nat.le_of_ble_eq_true rfl, Nat.le_of_ble_eq_true rfl⟩) hS (fun q _ h => hFc q h) hFc (fun u31 t H1 locs ht hvm hw33 hB hz1 hk1 hS => ?_)
  obtain ⟨x35, x36, x37, x38, x39, x40, x41, x42, x43, x44, x45, x46, x47, x48, x49, x50, x51, x52, x53, x54, hP1, hK1, hD1⟩ := hB
  rw [ht] at hP1
  have hK1 := va_K.moved hvm.symm hK1
  have hw33 : True := hw33
  obtain ⟨hP, hD⟩ := va_join (wr := [(x, .inr (0, [.int (1 + (r2 &&& 7)), .int (1 + (r6 &&& 31)), .ref x13, .int 0, .ref x14, .ref x15, .ref x16, .ref x17])), (x13, .inl (x19, 160, .inl (fun _ => 0))), (x14, .inr (13, [.ref x18, .int 0, .int 0, .int 0])), (x18, .inl (x20, 16, .inl (fun _ => 0))), (x15, .inl (x21, 3, .inr (.inr (.inr (.inr (fun _ => none)))))), (x16, .inl (x22, 3, .inr (.inr (.inr (.inr (fun _ => none)))))), (x17, .inr (14, [.ref em, .int 0, .int 0]))]) (w1 := [(y, .inr (12, [.int (1 + (r24 &&& 7)), .int (1 + (r28 &&& 31)), .ref x35, .ref x36, .ref x37, .ref x38, .ref x39, .ref x40, .ref x41, .ref x42, .ref x43, .int 0, .ref x44, .int 0, .int 0, .int 0, .ref x45, .int 0, .int 0, .int 0, .ref x46, .int 0, .int 0, .int 0, .int 0, .long 0, .ref x47, .ref x48, .ref x49, .int 0, .int 0, .int 0, .int 0, .int 0, .int 0, .ref x50, .int 0, .int 0, .int 0, .ref x51, .ref x52])), (x35, .inl (x53, 10, .inl (fun _ => 0))), (x44, .inl (x54, 160, .inl (fun _ => 0)))]) hP hD [7] [0, 1, 2, 3, 4, 5, 6] rfl rfl (by decide) (by decide) hk1 hFc hP1 hD1
  have hK := (hK.sub (tys' := [(x19, .char), (x20, .byte), (x21, .object "PatchStore$Value"), (x22, .object "PatchStore$Value")]) [0, 1, 2, 3] rfl).app hK1
  generalize H1 = H at hP hS ⊢
  have hP : va_P (dC, dI) vwCl [(x, .inr (0, [.int (1 + (r2 &&& 7)), .int (1 + (r6 &&& 31)), .ref x13, .int 0, .ref x14, .ref x15, .ref x16, .ref x17])), (x13, .inl (x19, 160, .inl (fun _ => 0))), (x14, .inr (13, [.ref x18, .int 0, .int 0, .int 0])), (x18, .inl (x20, 16, .inl (fun _ => 0))), (x15, .inl (x21, 3, .inr (.inr (.inr (.inr (fun _ => none)))))), (x16, .inl (x22, 3, .inr (.inr (.inr (.inr (fun _ => none)))))), (x17, .inr (14, [.ref em, .int 0, .int 0])), (y, .inr (12, [.int (1 + (r24 &&& 7)), .int (1 + (r28 &&& 31)), .ref x35, .ref x36, .ref x37, .ref x38, .ref x39, .ref x40, .ref x41, .ref x42, .ref x43, .int 0, .ref x44, .int 0, .int 0, .int 0, .ref x45, .int 0, .int 0, .int 0, .ref x46, .int 0, .int 0, .int 0, .int 0, .long 0, .ref x47, .ref x48, .ref x49, .int 0, .int 0, .int 0, .int 0, .int 0, .int 0, .ref x50, .int 0, .int 0, .int 0, .ref x51, .ref x52])), (x35, .inl (x53, 10, .inl (fun _ => 0))), (x44, .inl (x54, 160, .inl (fun _ => 0)))] H := hP
  have hD : va_D A [(x, .inr (0, [.int (1 + (r2 &&& 7)), .int (1 + (r6 &&& 31)), .ref x13, .int 0, .ref x14, .ref x15, .ref x16, .ref x17])), (x13, .inl (x19, 160, .inl (fun _ => 0))), (x14, .inr (13, [.ref x18, .int 0, .int 0, .int 0])), (x18, .inl (x20, 16, .inl (fun _ => 0))), (x15, .inl (x21, 3, .inr (.inr (.inr (.inr (fun _ => none)))))), (x16, .inl (x22, 3, .inr (.inr (.inr (.inr (fun _ => none)))))), (x17, .inr (14, [.ref em, .int 0, .int 0])), (y, .inr (12, [.int (1 + (r24 &&& 7)), .int (1 + (r28 &&& 31)), .ref x35, .ref x36, .ref x37, .ref x38, .ref x39, .ref x40, .ref x41, .ref x42, .ref x43, .int 0, .ref x44, .int 0, .int 0, .int 0, .ref x45, .int 0, .int 0, .int 0, .ref x46, .int 0, .int 0, .int 0, .int 0, .long 0, .ref x47, .ref x48, .ref x49, .int 0, .int 0, .int 0, .int 0, .int 0, .int 0, .ref x50, .int 0, .int 0, .int 0, .ref x51, .ref x52])), (x35, .inl (x53, 10, .inl (fun _ => 0))), (x44, .inl (x54, 160, .inl (fun _ => 0)))] := hD
  have hK : va_K (dC, dI) vwCl [(x19, .char), (x20, .byte), (x21, .object "PatchStore$Value"), (x22, .object "PatchStore$Value"), (x53, .int), (x54, .char)] s := hK
  refine W.widen (k := 26) (n := 13316) (Nat.le_of_ble_eq_true rfl) (Nat.le_of_ble_eq_true rfl) ?_
  refine lv_astore_n hx hb d_LA_law_35 rfl hl (by decide) rfl (fun ls hl => ?_)
  have hl : lv_has ls 4 [(2, .ref y), (1, .ref x), (0, .ref b)] := hl
  refine lv_iconst (v := 2) hx hb d_LA_law_36 (by decide) ?_
  refine lv_istore_n hx hb d_LA_law_37 rfl hl (by decide) rfl (fun ls hl => ?_)
  have hl : lv_has ls 4 [(3, .int 2), (2, .ref y), (1, .ref x), (0, .ref b)] := hl
  refine lv_iload_n hx hb d_LA_law_38 rfl (lv_at hl 0 rfl) ?_
  refine lv_aload_n hx hb d_LA_law_39 rfl (lv_at hl 3 rfl) ?_
  refine va_slen hx hb hX hbz hbA hS d_LA_law_40 ?_
  refine W.eq (g2 := F0 m 41 ls [.int (nI L), .int 2]) rfl ?_
  refine lv_iconst (v := 3) hx hb d_LA_law_41 (by decide) ?_
  refine lv_isub hx hb d_LA_law_42 ?_
  refine lv_icmp_gt (tgt := 458) hx hb d_LA_law_43 rfl (fun h1 => ?_) (fun h1 => ?_)
  · exact law_out l hx hb hr hlocks (Nat.le_of_ble_eq_true rfl) (Nat.le_of_ble_eq_true rfl) hAq hS
  · obtain rfl : L = 5 := by rcases (show L = 0 ∨ L = 1 ∨ L = 2 ∨ L = 3 ∨ L = 4 ∨ L = 5 by omega) with rfl | rfl | rfl | rfl | rfl | rfl <;> first | rfl | exact absurd (by decide) h1
    refine lv_aload_n hx hb d_LA_law_46 rfl (lv_at hl 3 rfl) ?_
    refine lv_iload_n hx hb d_LA_law_47 rfl (lv_at hl 0 rfl) ?_
    refine va_sld hx hb hX hbz hbA hS (vp_in_iff.mpr (by decide)) d_LA_law_48 ?_
    refine W.eq (g2 := F0 m 49 ls [.int (xs 2)]) rfl ?_
    refine lv_bipush (v := 15) hx hb d_LA_law_49 (by decide) ?_
    refine lv_iand hx hb d_LA_law_51 ?_
    obtain ⟨j, hj, ej⟩ := pk_andE (xs 2) (m := 15) 4 (by decide)
    refine W.eq (congrArg (fun z => F0 m 52 ls (.int z :: [])) (ej : ((xs 2) &&& 15) = nI j)) ?_
    rcases (show j = 0 ∨ j = 1 ∨ j = 2 ∨ j = 3 ∨ j = 4 ∨ j = 5 ∨ j = 6 ∨ j = 7 ∨ j = 8 ∨ j = 9 ∨ j = 10 ∨ j = 11 ∨ j = 12 ∨ j = 13 ∨ j = 14 ∨ j = 15 by omega) with rfl | rfl | rfl | rfl | rfl | rfl | rfl | rfl | rfl | rfl | rfl | rfl | rfl | rfl | rfl | rfl
    · refine lv_tableIn (off := 72) (tgt := 124) hx hb d_LA_law_52 (by decide) (by decide) (by decide) rfl ?_
      exact law_case_0 l hx hb hr hml hown htb hX hbz hlocks hE hK hA hAq hbA hl hP hD hS
    · refine lv_tableIn (off := 125) (tgt := 177) hx hb d_LA_law_52 (by decide) (by decide) (by decide) rfl ?_
      exact law_case_1 l hx hb hr hml hown htb hX hbz hlocks hE hK hA hAq hbA hl hP hD hS
    · refine lv_tableIn (off := 148) (tgt := 200) hx hb d_LA_law_52 (by decide) (by decide) (by decide) rfl ?_
      exact law_case_2 l hx hb hr hml hown htb hX hbz hlocks hE hK hA hAq hbA hl hP hD hS
    · refine lv_tableIn (off := 171) (tgt := 223) hx hb d_LA_law_52 (by decide) (by decide) (by decide) rfl ?_
      exact law_case_3 l hx hb hr hml hown htb hX hbz hlocks hE hK hA hAq hbA hl hP hD hS
    · refine lv_tableIn (off := 194) (tgt := 246) hx hb d_LA_law_52 (by decide) (by decide) (by decide) rfl ?_
      exact law_case_4 l hx hb hr hml hown htb hX hbz hlocks hE hK hA hAq hbA hl hP hD hS
    · refine lv_tableIn (off := 217) (tgt := 269) hx hb d_LA_law_52 (by decide) (by decide) (by decide) rfl ?_
      exact law_case_5 l hx hb hr hml hown htb hX hbz hlocks hE hK hA hAq hbA hl hP hD hS
    · refine lv_tableIn (off := 240) (tgt := 292) hx hb d_LA_law_52 (by decide) (by decide) (by decide) rfl ?_
      exact law_case_6 l hx hb hr hml hown htb hX hbz hlocks hE hK hA hAq hbA hl hP hD hS
    · refine lv_tableIn (off := 273) (tgt := 325) hx hb d_LA_law_52 (by decide) (by decide) (by decide) rfl ?_
      exact law_case_7 l hx hb hr hml hown htb hX hbz hlocks hE hK hA hAq hbA hl hP hD hS
    · refine lv_tableIn (off := 286) (tgt := 338) hx hb d_LA_law_52 (by decide) (by decide) (by decide) rfl ?_
      exact law_case_8 l hx hb hr hml hown htb hX hbz hlocks hE hK hA hAq hbA hl hP hD hS
    · refine lv_tableIn (off := 319) (tgt := 371) hx hb d_LA_law_52 (by decide) (by decide) (by decide) rfl ?_
      exact law_case_9 l hx hb hr hml hown htb hX hbz hlocks hE hK hA hAq hbA hl hP hD hS
    · refine lv_tableIn (off := 332) (tgt := 384) hx hb d_LA_law_52 (by decide) (by decide) (by decide) rfl ?_
      exact law_case_10 l hx hb hr hml hown htb hX hbz hlocks hE hK hA hAq hbA hl hP hD hS
    · refine lv_tableIn (off := 355) (tgt := 407) hx hb d_LA_law_52 (by decide) (by decide) (by decide) rfl ?_
      exact law_case_11 l hx hb hr hml hown htb hX hbz hlocks hE hK hA hAq hbA hl hP hD hS
    · refine lv_tableIn (off := 378) (tgt := 430) hx hb d_LA_law_52 (by decide) (by decide) (by decide) rfl ?_
      exact law_case_12 l hx hb hr hml hown htb hX hbz hlocks hE hK hA hAq hbA hl hP hD hS
    · refine lv_tableIn (off := 389) (tgt := 441) hx hb d_LA_law_52 (by decide) (by decide) (by decide) rfl ?_
      exact law_case_13 l hx hb hr hml hown htb hX hbz hlocks hE hK hA hAq hbA hl hP hD hS
    · refine lv_tableOut (tgt := 452) hx hb d_LA_law_52 (by decide) rfl ?_
      exact law_tail l hx hb hr hlocks hX hbz hAq hbA (Nat.le_of_ble_eq_true rfl) (Nat.le_of_ble_eq_true rfl) (lv_sub hl [0, 3] rfl) hS
    · refine lv_tableOut (tgt := 452) hx hb d_LA_law_52 (by decide) rfl ?_
      exact law_tail l hx hb hr hlocks hX hbz hAq hbA (Nat.le_of_ble_eq_true rfl) (Nat.le_of_ble_eq_true rfl) (lv_sub hl [0, 3] rfl) hS
