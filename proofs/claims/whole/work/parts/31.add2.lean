set_option maxHeartbeats 1000000 in
set_option maxRecDepth 100000 in
/-- add(v, table, n) where there is room -/
theorem k_AL_add2_fit (l : Launch) (dC : Nat → ClassId) (dI : Nat → Nat → Nat) (sz : Nat) (x : Nat) (mo : Int32) (ed : Nat) (cO : ClassId) (f : Nat → Option Nat) (ci : Nat) (n : Nat) (cap : Nat) (v : Nat) (em : Nat) (aK : Nat → Nat) (aV : Nat → Nat) (fz : va_W) (hci : Oci ci) (hv : Vin ci fz v) (hn : n < cap) (hc : cap ≤ 163) : Met l y_AL_add2 ws_AL_add2 ({ frames := 0, cells := 0, slots := 0, locals := 0 }) (va_Pc [.ref x, .ref v, .ref ed, .int (nI n)] (fun U => U.heap.size = sz ∧ va_P (dC, dI) vwCl ([(x, .inr (14, [.ref ed, .int (nI n), .int mo])), (ed, .inl (cO, cap, .inr (.inr (.inr (.inr f)))))] ++ fz) U.heap ∧ va_K (dC, dI) vwCl [(cO, .object "java/lang/Object")] U ∧ va_D (fun _ => True) ([(x, .inr (14, [.ref ed, .int (nI n), .int mo])), (ed, .inl (cO, cap, .inr (.inr (.inr (.inr f)))))] ++ fz) ∧ EX em aK aV (va_A ([(x, .inr (14, [.ref ed, .int (nI n), .int mo])), (ed, .inl (cO, cap, .inr (.inr (.inr (.inr f)))))] ++ fz) sz) U U.heap)) (va_Qv (fun (u : Unit) => True) (fun u t => va_P (dC, dI) vwCl ([(x, .inr (14, [.ref ed, .int (nI (n + 1)), .int mo])), (ed, .inl (cO, cap, .inr (.inr (.inr (.inr (va_up f n (some v)))))))] ++ fz) t.heap ∧ va_K (dC, dI) vwCl [(cO, .object "java/lang/Object")] t ∧ va_D (va_A ([(x, .inr (14, [.ref ed, .int (nI n), .int mo])), (ed, .inl (cO, cap, .inr (.inr (.inr (.inr f)))))] ++ fz) sz) ([(x, .inr (14, [.ref ed, .int (nI (n + 1)), .int mo])), (ed, .inl (cO, cap, .inr (.inr (.inr (.inr (va_up f n (some v)))))))] ++ fz)) (va_A ([(x, .inr (14, [.ref ed, .int (nI n), .int mo])), (ed, .inl (cO, cap, .inr (.inr (.inr (.inr f)))))] ++ fz) sz)) 0 0 (va_A ([(x, .inr (14, [.ref ed, .int (nI n), .int mo])), (ed, .inl (cO, cap, .inr (.inr (.inr (.inr f)))))] ++ fz) sz) := by
  refine Met.ofW (cc := c_AL_add2) (maxL := 4) (ret := none) (by decide) rfl ?_
  intro p e s m args below meth c s₁ B hml hv
  obtain ⟨rfl, hsz, hP, hK, hD0, hE⟩ := hv
  have hx := B.exec
  have hb := B.bytes
  have hr := B.returns
  have hts := atoms_spec (ws := ws_AL_add2) B.pre
  have htb := fun w (h : w ∈ TBL) => hts w (List.mem_cons_of_mem _ h)
  have hown : s.vm.findClass R_AL = some m.cls := findClass_of_methodNamed B.named
  have hlocks := B.notSynchronized
  subst hsz
  have hD := hD0.self (sz := s.heap.size)
  generalize hAe : va_A ([(x, .inr (14, [.ref ed, .int (nI n), .int mo])), (ed, .inl (cO, cap, .inr (.inr (.inr (.inr f)))))] ++ fz) s.heap.size = A at hD hE ⊢
  have hA : ∀ q : Nat, s.heap.size ≤ q → A q := fun q h => by rw [← hAe]; exact Or.inr h
  have hS : va_S A s.heap s.heap [] := va_S.rf
  have hP : va_P (dC, dI) vwCl ([(x, .inr (14, [.ref ed, .int (nI n), .int mo])), (ed, .inl (cO, cap, .inr (.inr (.inr (.inr f)))))] ++ fz) s.heap := hP
  have hl := lv_entry ([.ref x, .ref v, .ref ed, .int (nI n)]) (n := 4) (Nat.le_of_ble_eq_true rfl)
  rw [lg_entry_eq]
  generalize (lg_sl ([.ref x, .ref v, .ref ed, .int (nI n)]) ++ List.replicate (4 - (lg_sl ([.ref x, .ref v, .ref ed, .int (nI n)])).length) Slot.unset).toArray = ls at hl ⊢
  have hl : lv_has ls 4 [(0, .ref x), (1, .ref v), (2, .ref ed), (3, .int (nI n))] := hl
  refine lv_iload_n hx hb d_AL_add2_0 rfl (lv_at hl 3 rfl) ?_
  refine lv_aload_n hx hb d_AL_add2_1 rfl (lv_at hl 2 rfl) ?_
  refine va_alen (v := (nI cap)) hx hb hK hP 1 0 rfl rfl rfl d_AL_add2_2 ?_
  refine lv_icmp_ne (tgt := 11) hx hb d_AL_add2_3 rfl (fun _ => ?_) (fun h9 => absurd h9 (fun h => by have := (nI_eq (by omega) (by omega)).mp h; omega))
  refine lv_aload_n hx hb d_AL_add2_11 rfl (lv_at hl 2 rfl) ?_
  refine lv_iload_n hx hb d_AL_add2_12 rfl (lv_at hl 3 rfl) ?_
  refine lv_aload_n hx hb d_AL_add2_13 rfl (lv_at hl 1 rfl) ?_
  refine va_astqM hx hb hK hP hD hS 1 0 rfl rfl (zz_any hE hci hK hP (hv.app _)) (vp_in_nI hn (by omega)) d_AL_add2_14 (fun H locs hP hD hS => ?_)
  rw [show (nI n).toNatClampNeg = n from nI_clamp (by omega)] at hP hD
  have hP : va_P (dC, dI) vwCl ([(x, .inr (14, [.ref ed, .int (nI n), .int mo])), (ed, .inl (cO, cap, .inr (.inr (.inr (.inr (va_up f n (some v)))))))] ++ fz) H := hP
  have hD : va_D A ([(x, .inr (14, [.ref ed, .int (nI n), .int mo])), (ed, .inl (cO, cap, .inr (.inr (.inr (.inr (va_up f n (some v)))))))] ++ fz) := hD
  refine lv_aload_n hx hb d_AL_add2_15 rfl (lv_at hl 0 rfl) ?_
  refine lv_iload_n hx hb d_AL_add2_16 rfl (lv_at hl 3 rfl) ?_
  refine lv_iconst (v := 1) hx hb d_AL_add2_17 (by decide) ?_
  refine lv_iadd hx hb d_AL_add2_18 ?_
  refine W.eq (congrArg (fun z => F0 m 19 ls (.int z :: [.ref x])) (nI_1 _ : ((nI n) + 1) = nI (n + 1))) ?_
  refine va_put (D := (dC, dI)) (ci := 14) (v := .int (nI (n + 1))) (ty := .int) (C := R_AL) (T := T_AL) (N := 3) hx hb htb in_AL ty_AL ty_AL_ok nm_AL hown hK hP hD hS 0 rfl rfl 1 (by decide) (htb _ m_88) (fun _ h9 => h9) rfl (by decide +kernel) rfl rfl (Nat.le_of_ble_eq_true rfl) d_AL_add2_19 (fun H locs hP hD hS => ?_)
  have hP : va_P (dC, dI) vwCl ([(x, .inr (14, [.ref ed, .int (nI (n + 1)), .int mo])), (ed, .inl (cO, cap, .inr (.inr (.inr (.inr (va_up f n (some v)))))))] ++ fz) H := hP
  have hD : va_D A ([(x, .inr (14, [.ref ed, .int (nI (n + 1)), .int mo])), (ed, .inl (cO, cap, .inr (.inr (.inr (.inr (va_up f n (some v)))))))] ++ fz) := hD
  have hP9 := zz_pickP (pre := [(x, .inr (14, [.ref ed, .int (nI (n + 1)), .int mo])), (ed, .inl (cO, cap, .inr (.inr (.inr (.inr (va_up f n (some v)))))))]) (fz := fz) (wc := [(x, .inr (14, [.ref ed, .int (nI (n + 1)), .int mo])), (ed, .inl (cO, cap, .inr (.inr (.inr (.inr (va_up f n (some v)))))))]) hP [0, 1] rfl
  have hD9 := zz_pickD (pre := [(x, .inr (14, [.ref ed, .int (nI (n + 1)), .int mo])), (ed, .inl (cO, cap, .inr (.inr (.inr (.inr (va_up f n (some v)))))))]) (fz := fz) (wc := [(x, .inr (14, [.ref ed, .int (nI (n + 1)), .int mo])), (ed, .inl (cO, cap, .inr (.inr (.inr (.inr (va_up f n (some v)))))))]) hD [0, 1] (by decide) rfl
  have hK9 := hK.sub (tys' := [(cO, .object "java/lang/Object")]) [0] rfl
  refine W.widen (k := 0) (n := 0) (Nat.le_of_ble_eq_true rfl) (Nat.le_of_ble_eq_true rfl) ?_
  exact W.vret hx hb hr (fun t ht hW => ⟨⟨(), rfl, trivial, ⟨by rw [ht]; exact hP9, va_K.moved hW.alike hK9, hD9⟩⟩, hS.F ht⟩) hS.2.2 d_AL_add2_22
set_option maxHeartbeats 1000000 in
set_option maxRecDepth 100000 in
/-- add(v, table, 10): the table grows -/
theorem k_AL_add2_10 (l : Launch) (dC : Nat → ClassId) (dI : Nat → Nat → Nat) (sz : Nat) (x : Nat) (mo : Int32) (ed : Nat) (cO : ClassId) (f : Nat → Option Nat) (ci : Nat) (em : Nat) (aK : Nat → Nat) (aV : Nat → Nat) (v : Nat) (fz : va_W) (hci : Oci ci) (hel : ∀ i, i < 10 → ∀ y, f i = some y → Vin ci fz y) (hv : Vin ci fz v) : Met l y_AL_add2 ws_AL_add2 ({ frames := 5, cells := 1, slots := 15, locals := 127 }) (va_Pc [.ref x, .ref v, .ref ed, .int 10] (fun U => U.heap.size = sz ∧ va_P (dC, dI) vwCl ([(x, .inr (14, [.ref ed, .int 10, .int mo])), (ed, .inl (cO, 10, .inr (.inr (.inr (.inr f)))))] ++ fz) U.heap ∧ va_K (dC, dI) vwCl [(cO, .object "java/lang/Object")] U ∧ va_D (fun _ => True) ([(x, .inr (14, [.ref ed, .int 10, .int mo])), (ed, .inl (cO, 10, .inr (.inr (.inr (.inr f)))))] ++ fz) ∧ EX em aK aV (va_A ([(x, .inr (14, [.ref ed, .int 10, .int mo])), (ed, .inl (cO, 10, .inr (.inr (.inr (.inr f)))))] ++ fz) sz) U U.heap)) (va_Qv (fun (u : Unit) => True) (fun u t => ∃ (ew : Nat), va_P (dC, dI) vwCl ([(x, .inr (14, [.ref ew, .int 11, .int mo])), (ew, .inl (cO, 15, .inr (.inr (.inr (.inr (va_up (va_cpy f (fun _ => none) 0 0 10) 10 (some v)))))))] ++ fz) t.heap ∧ va_K (dC, dI) vwCl [(cO, .object "java/lang/Object")] t ∧ va_D (va_A ([(x, .inr (14, [.ref ed, .int 10, .int mo])), (ed, .inl (cO, 10, .inr (.inr (.inr (.inr f)))))] ++ fz) sz) ([(x, .inr (14, [.ref ew, .int 11, .int mo])), (ew, .inl (cO, 15, .inr (.inr (.inr (.inr (va_up (va_cpy f (fun _ => none) 0 0 10) 10 (some v)))))))] ++ fz)) (va_A ([(x, .inr (14, [.ref ed, .int 10, .int mo])), (ed, .inl (cO, 10, .inr (.inr (.inr (.inr f)))))] ++ fz) sz)) 1 15 (va_A ([(x, .inr (14, [.ref ed, .int 10, .int mo])), (ed, .inl (cO, 10, .inr (.inr (.inr (.inr f)))))] ++ fz) sz) := by
  refine Met.ofW (cc := c_AL_add2) (maxL := 4) (ret := none) (by decide) rfl ?_
  intro p e s m args below meth c s₁ B hml hv
  obtain ⟨rfl, hsz, hP, hK, hD0, hE⟩ := hv
  have hx := B.exec
  have hb := B.bytes
  have hr := B.returns
  have hts := atoms_spec (ws := ws_AL_add2) B.pre
  have htb := fun w (h : w ∈ TBL) => hts w (List.mem_cons_of_mem _ h)
  have hown : s.vm.findClass R_AL = some m.cls := findClass_of_methodNamed B.named
  have hlocks := B.notSynchronized
  subst hsz
  have hD := hD0.self (sz := s.heap.size)
  generalize hAe : va_A ([(x, .inr (14, [.ref ed, .int 10, .int mo])), (ed, .inl (cO, 10, .inr (.inr (.inr (.inr f)))))] ++ fz) s.heap.size = A at hD hE ⊢
  have hA : ∀ q : Nat, s.heap.size ≤ q → A q := fun q h => by rw [← hAe]; exact Or.inr h
  have hS : va_S A s.heap s.heap [] := va_S.rf
  have hP : va_P (dC, dI) vwCl ([(x, .inr (14, [.ref ed, .int 10, .int mo])), (ed, .inl (cO, 10, .inr (.inr (.inr (.inr f)))))] ++ fz) s.heap := hP
  have hl := lv_entry ([.ref x, .ref v, .ref ed, .int 10]) (n := 4) (Nat.le_of_ble_eq_true rfl)
  rw [lg_entry_eq]
  generalize (lg_sl ([.ref x, .ref v, .ref ed, .int 10]) ++ List.replicate (4 - (lg_sl ([.ref x, .ref v, .ref ed, .int 10])).length) Slot.unset).toArray = ls at hl ⊢
  have hl : lv_has ls 4 [(0, .ref x), (1, .ref v), (2, .ref ed), (3, .int 10)] := hl
  refine lv_iload_n hx hb d_AL_add2_0 rfl (lv_at hl 3 rfl) ?_
  refine lv_aload_n hx hb d_AL_add2_1 rfl (lv_at hl 2 rfl) ?_
  refine va_alen (v := 10) hx hb hK hP 1 0 rfl rfl rfl d_AL_add2_2 ?_
  refine lv_icmp_ne (tgt := 11) hx hb d_AL_add2_3 rfl (fun h9 => absurd (rfl) h9) (fun _ => ?_)
  refine lv_aload_n hx hb d_AL_add2_6 rfl (lv_at hl 0 rfl) ?_
  have hPc := zz_pickP (pre := [(x, .inr (14, [.ref ed, .int 10, .int mo])), (ed, .inl (cO, 10, .inr (.inr (.inr (.inr f)))))]) (fz := fz) (wc := [(x, .inr (14, [.ref ed, .int 10, .int mo])), (ed, .inl (cO, 10, .inr (.inr (.inr (.inr f)))))]) hP [0, 1] rfl
  have hDc := zz_pickD (pre := [(x, .inr (14, [.ref ed, .int 10, .int mo])), (ed, .inl (cO, 10, .inr (.inr (.inr (.inr f)))))]) (fz := fz) (wc := [(x, .inr (14, [.ref ed, .int 10, .int mo])), (ed, .inl (cO, 10, .inr (.inr (.inr (.inr f)))))]) hD [0, 1] (by decide) rfl
  have hFc := zz_free (pre := [(x, .inr (14, [.ref ed, .int 10, .int mo])), (ed, .inl (cO, 10, .inr (.inr (.inr (.inr f)))))]) (fz := fz) (wc := [(x, .inr (14, [.ref ed, .int 10, .int mo])), (ed, .inl (cO, 10, .inr (.inr (.inr (.inr f)))))]) hD hS hA [0, 1] rfl
  have hKc := hK.sub (tys' := [(cO, .object "java/lang/Object")]) [0] rfl
  refine va_callr (va_runV (As := []) (rest := []) ⟨hx, hb, hml, hown, htb⟩ (k_AL_grow_10 l dC dI _ x mo ed cO f ci em aK aV fz hci hel) (cwV 0 htb (g_V (fun _ h => h) m_533 m_530 m_532 m_1631 m_8) rfl rfl rfl (by decide +kernel) ⟨Nat.le_of_ble_eq_true rfl, Nat.le_of_ble_eq_true rfl⟩) ⟨fun a U g mk q => by obtain ⟨q0, q1, qP, qK, qD, z0⟩ := q; exact ⟨q0, q1, qP, va_K.moved (u := U) (U := U.calling g mk a) (Vm.Alike.refl U.vm) qK, qD, EX.same (U := U) (U' := U.calling g mk a) rfl z0⟩, va_recv hK hP (ci := 14) rfl (q0 := 0) rfl, fun U hU hW => ⟨rfl, by rw [hU], by rw [hU]; exact hPc, va_K.moved hW.alike hKc, hDc.weaken (fun _ _ _ _ => trivial), by rw [hU]; exact EX.warm hW ((hE.kept (fun a h1 h2 => hS.2.1 a h1 h2)).narrow hFc)⟩⟩ rfl rfl hl.1 rfl (lv_room (Nat.le_of_ble_eq_true rfl)) d_AL_add2_7 ⟨Nat.le_of_ble_eq_true rfl, Nat.le_of_ble_eq_true rfl⟩) hS (fun q _ h => hFc q h) hFc (fun u1 ra4 t H1 locs ht hvm hw3 hB hz1 hk1 hS => ?_)
  obtain ⟨hP1, hK1, hD1⟩ := hB
  rw [ht] at hP1
  have hK1 := va_K.moved hvm.symm hK1
  have hw3 : True := hw3
  obtain ⟨hP, hD⟩ := zz_join (pre := [(x, .inr (14, [.ref ed, .int 10, .int mo])), (ed, .inl (cO, 10, .inr (.inr (.inr (.inr f)))))]) (fz := fz) (wc := [(x, .inr (14, [.ref ed, .int 10, .int mo])), (ed, .inl (cO, 10, .inr (.inr (.inr (.inr f)))))]) (wr := []) (w1 := ([(x, .inr (14, [.ref ra4, .int 10, .int mo])), (ra4, .inl (cO, 15, .inr (.inr (.inr (.inr (va_cpy f (fun _ => none) 0 0 10))))))] ++ fz)) hP hD [0, 1] [] rfl rfl (by decide) (by decide) hk1 hFc hP1 hD1
  have hK := (hK.sub (tys' := []) [] rfl).app hK1
  generalize H1 = H at hP hS ⊢
  have hP : va_P (dC, dI) vwCl ([(x, .inr (14, [.ref ra4, .int 10, .int mo])), (ra4, .inl (cO, 15, .inr (.inr (.inr (.inr (va_cpy f (fun _ => none) 0 0 10))))))] ++ fz) H := hP
  have hD : va_D A ([(x, .inr (14, [.ref ra4, .int 10, .int mo])), (ra4, .inl (cO, 15, .inr (.inr (.inr (.inr (va_cpy f (fun _ => none) 0 0 10))))))] ++ fz) := hD
  have hK : va_K (dC, dI) vwCl [(cO, .object "java/lang/Object")] s := hK
  refine W.widen (k := 1) (n := 15) (Nat.le_of_ble_eq_true rfl) (Nat.le_of_ble_eq_true rfl) ?_
  refine lv_astore_n hx hb d_AL_add2_10 rfl hl (by decide) rfl (fun ls hl => ?_)
  have hl : lv_has ls 4 [(2, .ref ra4), (0, .ref x), (1, .ref v), (3, .int 10)] := hl
  refine lv_aload_n hx hb d_AL_add2_11 rfl (lv_at hl 0 rfl) ?_
  refine lv_iload_n hx hb d_AL_add2_12 rfl (lv_at hl 3 rfl) ?_
  refine lv_aload_n hx hb d_AL_add2_13 rfl (lv_at hl 2 rfl) ?_
  refine va_astqM hx hb hK hP hD hS 1 0 rfl rfl (zz_any hE hci hK hP (hv.app _)) (vp_in_iff.mpr (by decide)) d_AL_add2_14 (fun H locs hP hD hS => ?_)
  have hP : va_P (dC, dI) vwCl ([(x, .inr (14, [.ref ra4, .int 10, .int mo])), (ra4, .inl (cO, 15, .inr (.inr (.inr (.inr (va_up (va_cpy f (fun _ => none) 0 0 10) 10 (some v)))))))] ++ fz) H := hP
  have hD : va_D A ([(x, .inr (14, [.ref ra4, .int 10, .int mo])), (ra4, .inl (cO, 15, .inr (.inr (.inr (.inr (va_up (va_cpy f (fun _ => none) 0 0 10) 10 (some v)))))))] ++ fz) := hD
  refine lv_aload_n hx hb d_AL_add2_15 rfl (lv_at hl 1 rfl) ?_
  refine lv_iload_n hx hb d_AL_add2_16 rfl (lv_at hl 3 rfl) ?_
  refine lv_iconst (v := 1) hx hb d_AL_add2_17 (by decide) ?_
  refine lv_iadd hx hb d_AL_add2_18 ?_
  refine W.eq (congrArg (fun z => F0 m 19 ls (.int z :: [.ref x])) (by decide : ((10 : Int32) + 1) = 11)) ?_
  refine va_put (D := (dC, dI)) (ci := 14) (v := .int 11) (ty := .int) (C := R_AL) (T := T_AL) (N := 3) hx hb htb in_AL ty_AL ty_AL_ok nm_AL hown hK hP hD hS 0 rfl rfl 1 (by decide) (htb _ m_88) (fun _ h9 => h9) rfl (by decide +kernel) rfl rfl (Nat.le_of_ble_eq_true rfl) d_AL_add2_19 (fun H locs hP hD hS => ?_)
  have hP : va_P (dC, dI) vwCl ([(x, .inr (14, [.ref ra4, .int 11, .int mo])), (ra4, .inl (cO, 15, .inr (.inr (.inr (.inr (va_up (va_cpy f (fun _ => none) 0 0 10) 10 (some v)))))))] ++ fz) H := hP
  have hD : va_D A ([(x, .inr (14, [.ref ra4, .int 11, .int mo])), (ra4, .inl (cO, 15, .inr (.inr (.inr (.inr (va_up (va_cpy f (fun _ => none) 0 0 10) 10 (some v)))))))] ++ fz) := hD
  have hP9 := zz_pickP (pre := [(x, .inr (14, [.ref ra4, .int 11, .int mo])), (ra4, .inl (cO, 15, .inr (.inr (.inr (.inr (va_up (va_cpy f (fun _ => none) 0 0 10) 10 (some v)))))))]) (fz := fz) (wc := [(x, .inr (14, [.ref ra4, .int 11, .int mo])), (ra4, .inl (cO, 15, .inr (.inr (.inr (.inr (va_up (va_cpy f (fun _ => none) 0 0 10) 10 (some v)))))))]) hP [0, 1] rfl
  have hD9 := zz_pickD (pre := [(x, .inr (14, [.ref ra4, .int 11, .int mo])), (ra4, .inl (cO, 15, .inr (.inr (.inr (.inr (va_up (va_cpy f (fun _ => none) 0 0 10) 10 (some v)))))))]) (fz := fz) (wc := [(x, .inr (14, [.ref ra4, .int 11, .int mo])), (ra4, .inl (cO, 15, .inr (.inr (.inr (.inr (va_up (va_cpy f (fun _ => none) 0 0 10) 10 (some v)))))))]) hD [0, 1] (by decide) rfl
  have hK9 := hK.sub (tys' := [(cO, .object "java/lang/Object")]) [0] rfl
  refine W.widen (k := 1) (n := 15) (Nat.le_of_ble_eq_true rfl) (Nat.le_of_ble_eq_true rfl) ?_
  exact W.vret hx hb hr (fun t ht hW => ⟨⟨(), rfl, trivial, ⟨ra4, by rw [ht]; exact hP9, va_K.moved hW.alike hK9, hD9⟩⟩, hS.F ht⟩) hS.2.2 d_AL_add2_22
set_option maxHeartbeats 1000000 in
set_option maxRecDepth 100000 in
/-- add(v, table, 15): the table grows -/
theorem k_AL_add2_15 (l : Launch) (dC : Nat → ClassId) (dI : Nat → Nat → Nat) (sz : Nat) (x : Nat) (mo : Int32) (ed : Nat) (cO : ClassId) (f : Nat → Option Nat) (ci : Nat) (em : Nat) (aK : Nat → Nat) (aV : Nat → Nat) (v : Nat) (fz : va_W) (hci : Oci ci) (hel : ∀ i, i < 15 → ∀ y, f i = some y → Vin ci fz y) (hv : Vin ci fz v) : Met l y_AL_add2 ws_AL_add2 ({ frames := 5, cells := 1, slots := 22, locals := 127 }) (va_Pc [.ref x, .ref v, .ref ed, .int 15] (fun U => U.heap.size = sz ∧ va_P (dC, dI) vwCl ([(x, .inr (14, [.ref ed, .int 15, .int mo])), (ed, .inl (cO, 15, .inr (.inr (.inr (.inr f)))))] ++ fz) U.heap ∧ va_K (dC, dI) vwCl [(cO, .object "java/lang/Object")] U ∧ va_D (fun _ => True) ([(x, .inr (14, [.ref ed, .int 15, .int mo])), (ed, .inl (cO, 15, .inr (.inr (.inr (.inr f)))))] ++ fz) ∧ EX em aK aV (va_A ([(x, .inr (14, [.ref ed, .int 15, .int mo])), (ed, .inl (cO, 15, .inr (.inr (.inr (.inr f)))))] ++ fz) sz) U U.heap)) (va_Qv (fun (u : Unit) => True) (fun u t => ∃ (ew : Nat), va_P (dC, dI) vwCl ([(x, .inr (14, [.ref ew, .int 16, .int mo])), (ew, .inl (cO, 22, .inr (.inr (.inr (.inr (va_up (va_cpy f (fun _ => none) 0 0 15) 15 (some v)))))))] ++ fz) t.heap ∧ va_K (dC, dI) vwCl [(cO, .object "java/lang/Object")] t ∧ va_D (va_A ([(x, .inr (14, [.ref ed, .int 15, .int mo])), (ed, .inl (cO, 15, .inr (.inr (.inr (.inr f)))))] ++ fz) sz) ([(x, .inr (14, [.ref ew, .int 16, .int mo])), (ew, .inl (cO, 22, .inr (.inr (.inr (.inr (va_up (va_cpy f (fun _ => none) 0 0 15) 15 (some v)))))))] ++ fz)) (va_A ([(x, .inr (14, [.ref ed, .int 15, .int mo])), (ed, .inl (cO, 15, .inr (.inr (.inr (.inr f)))))] ++ fz) sz)) 1 22 (va_A ([(x, .inr (14, [.ref ed, .int 15, .int mo])), (ed, .inl (cO, 15, .inr (.inr (.inr (.inr f)))))] ++ fz) sz) := by
  refine Met.ofW (cc := c_AL_add2) (maxL := 4) (ret := none) (by decide) rfl ?_
  intro p e s m args below meth c s₁ B hml hv
  obtain ⟨rfl, hsz, hP, hK, hD0, hE⟩ := hv
  have hx := B.exec
  have hb := B.bytes
  have hr := B.returns
  have hts := atoms_spec (ws := ws_AL_add2) B.pre
  have htb := fun w (h : w ∈ TBL) => hts w (List.mem_cons_of_mem _ h)
  have hown : s.vm.findClass R_AL = some m.cls := findClass_of_methodNamed B.named
  have hlocks := B.notSynchronized
  subst hsz
  have hD := hD0.self (sz := s.heap.size)
  generalize hAe : va_A ([(x, .inr (14, [.ref ed, .int 15, .int mo])), (ed, .inl (cO, 15, .inr (.inr (.inr (.inr f)))))] ++ fz) s.heap.size = A at hD hE ⊢
  have hA : ∀ q : Nat, s.heap.size ≤ q → A q := fun q h => by rw [← hAe]; exact Or.inr h
  have hS : va_S A s.heap s.heap [] := va_S.rf
  have hP : va_P (dC, dI) vwCl ([(x, .inr (14, [.ref ed, .int 15, .int mo])), (ed, .inl (cO, 15, .inr (.inr (.inr (.inr f)))))] ++ fz) s.heap := hP
  have hl := lv_entry ([.ref x, .ref v, .ref ed, .int 15]) (n := 4) (Nat.le_of_ble_eq_true rfl)
  rw [lg_entry_eq]
  generalize (lg_sl ([.ref x, .ref v, .ref ed, .int 15]) ++ List.replicate (4 - (lg_sl ([.ref x, .ref v, .ref ed, .int 15])).length) Slot.unset).toArray = ls at hl ⊢
  have hl : lv_has ls 4 [(0, .ref x), (1, .ref v), (2, .ref ed), (3, .int 15)] := hl
  refine lv_iload_n hx hb d_AL_add2_0 rfl (lv_at hl 3 rfl) ?_
  refine lv_aload_n hx hb d_AL_add2_1 rfl (lv_at hl 2 rfl) ?_
  refine va_alen (v := 15) hx hb hK hP 1 0 rfl rfl rfl d_AL_add2_2 ?_
  refine lv_icmp_ne (tgt := 11) hx hb d_AL_add2_3 rfl (fun h9 => absurd (rfl) h9) (fun _ => ?_)
  refine lv_aload_n hx hb d_AL_add2_6 rfl (lv_at hl 0 rfl) ?_
  have hPc := zz_pickP (pre := [(x, .inr (14, [.ref ed, .int 15, .int mo])), (ed, .inl (cO, 15, .inr (.inr (.inr (.inr f)))))]) (fz := fz) (wc := [(x, .inr (14, [.ref ed, .int 15, .int mo])), (ed, .inl (cO, 15, .inr (.inr (.inr (.inr f)))))]) hP [0, 1] rfl
  have hDc := zz_pickD (pre := [(x, .inr (14, [.ref ed, .int 15, .int mo])), (ed, .inl (cO, 15, .inr (.inr (.inr (.inr f)))))]) (fz := fz) (wc := [(x, .inr (14, [.ref ed, .int 15, .int mo])), (ed, .inl (cO, 15, .inr (.inr (.inr (.inr f)))))]) hD [0, 1] (by decide) rfl
  have hFc := zz_free (pre := [(x, .inr (14, [.ref ed, .int 15, .int mo])), (ed, .inl (cO, 15, .inr (.inr (.inr (.inr f)))))]) (fz := fz) (wc := [(x, .inr (14, [.ref ed, .int 15, .int mo])), (ed, .inl (cO, 15, .inr (.inr (.inr (.inr f)))))]) hD hS hA [0, 1] rfl
  have hKc := hK.sub (tys' := [(cO, .object "java/lang/Object")]) [0] rfl
  refine va_callr (va_runV (As := []) (rest := []) ⟨hx, hb, hml, hown, htb⟩ (k_AL_grow_15 l dC dI _ x mo ed cO f ci em aK aV fz hci hel) (cwV 0 htb (g_V (fun _ h => h) m_533 m_530 m_532 m_1631 m_8) rfl rfl rfl (by decide +kernel) ⟨Nat.le_of_ble_eq_true rfl, Nat.le_of_ble_eq_true rfl⟩) ⟨fun a U g mk q => by obtain ⟨q0, q1, qP, qK, qD, z0⟩ := q; exact ⟨q0, q1, qP, va_K.moved (u := U) (U := U.calling g mk a) (Vm.Alike.refl U.vm) qK, qD, EX.same (U := U) (U' := U.calling g mk a) rfl z0⟩, va_recv hK hP (ci := 14) rfl (q0 := 0) rfl, fun U hU hW => ⟨rfl, by rw [hU], by rw [hU]; exact hPc, va_K.moved hW.alike hKc, hDc.weaken (fun _ _ _ _ => trivial), by rw [hU]; exact EX.warm hW ((hE.kept (fun a h1 h2 => hS.2.1 a h1 h2)).narrow hFc)⟩⟩ rfl rfl hl.1 rfl (lv_room (Nat.le_of_ble_eq_true rfl)) d_AL_add2_7 ⟨Nat.le_of_ble_eq_true rfl, Nat.le_of_ble_eq_true rfl⟩) hS (fun q _ h => hFc q h) hFc (fun u1 ra4 t H1 locs ht hvm hw3 hB hz1 hk1 hS => ?_)
  obtain ⟨hP1, hK1, hD1⟩ := hB
  rw [ht] at hP1
  have hK1 := va_K.moved hvm.symm hK1
  have hw3 : True := hw3
  obtain ⟨hP, hD⟩ := zz_join (pre := [(x, .inr (14, [.ref ed, .int 15, .int mo])), (ed, .inl (cO, 15, .inr (.inr (.inr (.inr f)))))]) (fz := fz) (wc := [(x, .inr (14, [.ref ed, .int 15, .int mo])), (ed, .inl (cO, 15, .inr (.inr (.inr (.inr f)))))]) (wr := []) (w1 := ([(x, .inr (14, [.ref ra4, .int 15, .int mo])), (ra4, .inl (cO, 22, .inr (.inr (.inr (.inr (va_cpy f (fun _ => none) 0 0 15))))))] ++ fz)) hP hD [0, 1] [] rfl rfl (by decide) (by decide) hk1 hFc hP1 hD1
  have hK := (hK.sub (tys' := []) [] rfl).app hK1
  generalize H1 = H at hP hS ⊢
  have hP : va_P (dC, dI) vwCl ([(x, .inr (14, [.ref ra4, .int 15, .int mo])), (ra4, .inl (cO, 22, .inr (.inr (.inr (.inr (va_cpy f (fun _ => none) 0 0 15))))))] ++ fz) H := hP
  have hD : va_D A ([(x, .inr (14, [.ref ra4, .int 15, .int mo])), (ra4, .inl (cO, 22, .inr (.inr (.inr (.inr (va_cpy f (fun _ => none) 0 0 15))))))] ++ fz) := hD
  have hK : va_K (dC, dI) vwCl [(cO, .object "java/lang/Object")] s := hK
  refine W.widen (k := 1) (n := 22) (Nat.le_of_ble_eq_true rfl) (Nat.le_of_ble_eq_true rfl) ?_
  refine lv_astore_n hx hb d_AL_add2_10 rfl hl (by decide) rfl (fun ls hl => ?_)
  have hl : lv_has ls 4 [(2, .ref ra4), (0, .ref x), (1, .ref v), (3, .int 15)] := hl
  refine lv_aload_n hx hb d_AL_add2_11 rfl (lv_at hl 0 rfl) ?_
  refine lv_iload_n hx hb d_AL_add2_12 rfl (lv_at hl 3 rfl) ?_
  refine lv_aload_n hx hb d_AL_add2_13 rfl (lv_at hl 2 rfl) ?_
  refine va_astqM hx hb hK hP hD hS 1 0 rfl rfl (zz_any hE hci hK hP (hv.app _)) (vp_in_iff.mpr (by decide)) d_AL_add2_14 (fun H locs hP hD hS => ?_)
  have hP : va_P (dC, dI) vwCl ([(x, .inr (14, [.ref ra4, .int 15, .int mo])), (ra4, .inl (cO, 22, .inr (.inr (.inr (.inr (va_up (va_cpy f (fun _ => none) 0 0 15) 15 (some v)))))))] ++ fz) H := hP
  have hD : va_D A ([(x, .inr (14, [.ref ra4, .int 15, .int mo])), (ra4, .inl (cO, 22, .inr (.inr (.inr (.inr (va_up (va_cpy f (fun _ => none) 0 0 15) 15 (some v)))))))] ++ fz) := hD
  refine lv_aload_n hx hb d_AL_add2_15 rfl (lv_at hl 1 rfl) ?_
  refine lv_iload_n hx hb d_AL_add2_16 rfl (lv_at hl 3 rfl) ?_
  refine lv_iconst (v := 1) hx hb d_AL_add2_17 (by decide) ?_
  refine lv_iadd hx hb d_AL_add2_18 ?_
  refine W.eq (congrArg (fun z => F0 m 19 ls (.int z :: [.ref x])) (by decide : ((15 : Int32) + 1) = 16)) ?_
  refine va_put (D := (dC, dI)) (ci := 14) (v := .int 16) (ty := .int) (C := R_AL) (T := T_AL) (N := 3) hx hb htb in_AL ty_AL ty_AL_ok nm_AL hown hK hP hD hS 0 rfl rfl 1 (by decide) (htb _ m_88) (fun _ h9 => h9) rfl (by decide +kernel) rfl rfl (Nat.le_of_ble_eq_true rfl) d_AL_add2_19 (fun H locs hP hD hS => ?_)
  have hP : va_P (dC, dI) vwCl ([(x, .inr (14, [.ref ra4, .int 16, .int mo])), (ra4, .inl (cO, 22, .inr (.inr (.inr (.inr (va_up (va_cpy f (fun _ => none) 0 0 15) 15 (some v)))))))] ++ fz) H := hP
  have hD : va_D A ([(x, .inr (14, [.ref ra4, .int 16, .int mo])), (ra4, .inl (cO, 22, .inr (.inr (.inr (.inr (va_up (va_cpy f (fun _ => none) 0 0 15) 15 (some v)))))))] ++ fz) := hD
  have hP9 := zz_pickP (pre := [(x, .inr (14, [.ref ra4, .int 16, .int mo])), (ra4, .inl (cO, 22, .inr (.inr (.inr (.inr (va_up (va_cpy f (fun _ => none) 0 0 15) 15 (some v)))))))]) (fz := fz) (wc := [(x, .inr (14, [.ref ra4, .int 16, .int mo])), (ra4, .inl (cO, 22, .inr (.inr (.inr (.inr (va_up (va_cpy f (fun _ => none) 0 0 15) 15 (some v)))))))]) hP [0, 1] rfl
  have hD9 := zz_pickD (pre := [(x, .inr (14, [.ref ra4, .int 16, .int mo])), (ra4, .inl (cO, 22, .inr (.inr (.inr (.inr (va_up (va_cpy f (fun _ => none) 0 0 15) 15 (some v)))))))]) (fz := fz) (wc := [(x, .inr (14, [.ref ra4, .int 16, .int mo])), (ra4, .inl (cO, 22, .inr (.inr (.inr (.inr (va_up (va_cpy f (fun _ => none) 0 0 15) 15 (some v)))))))]) hD [0, 1] (by decide) rfl
  have hK9 := hK.sub (tys' := [(cO, .object "java/lang/Object")]) [0] rfl
  refine W.widen (k := 1) (n := 22) (Nat.le_of_ble_eq_true rfl) (Nat.le_of_ble_eq_true rfl) ?_
  exact W.vret hx hb hr (fun t ht hW => ⟨⟨(), rfl, trivial, ⟨ra4, by rw [ht]; exact hP9, va_K.moved hW.alike hK9, hD9⟩⟩, hS.F ht⟩) hS.2.2 d_AL_add2_22
set_option maxHeartbeats 1000000 in
set_option maxRecDepth 100000 in
/-- add(v, table, 22): the table grows -/
theorem k_AL_add2_22 (l : Launch) (dC : Nat → ClassId) (dI : Nat → Nat → Nat) (sz : Nat) (x : Nat) (mo : Int32) (ed : Nat) (cO : ClassId) (f : Nat → Option Nat) (ci : Nat) (em : Nat) (aK : Nat → Nat) (aV : Nat → Nat) (v : Nat) (fz : va_W) (hci : Oci ci) (hel : ∀ i, i < 22 → ∀ y, f i = some y → Vin ci fz y) (hv : Vin ci fz v) : Met l y_AL_add2 ws_AL_add2 ({ frames := 5, cells := 1, slots := 33, locals := 127 }) (va_Pc [.ref x, .ref v, .ref ed, .int 22] (fun U => U.heap.size = sz ∧ va_P (dC, dI) vwCl ([(x, .inr (14, [.ref ed, .int 22, .int mo])), (ed, .inl (cO, 22, .inr (.inr (.inr (.inr f)))))] ++ fz) U.heap ∧ va_K (dC, dI) vwCl [(cO, .object "java/lang/Object")] U ∧ va_D (fun _ => True) ([(x, .inr (14, [.ref ed, .int 22, .int mo])), (ed, .inl (cO, 22, .inr (.inr (.inr (.inr f)))))] ++ fz) ∧ EX em aK aV (va_A ([(x, .inr (14, [.ref ed, .int 22, .int mo])), (ed, .inl (cO, 22, .inr (.inr (.inr (.inr f)))))] ++ fz) sz) U U.heap)) (va_Qv (fun (u : Unit) => True) (fun u t => ∃ (ew : Nat), va_P (dC, dI) vwCl ([(x, .inr (14, [.ref ew, .int 23, .int mo])), (ew, .inl (cO, 33, .inr (.inr (.inr (.inr (va_up (va_cpy f (fun _ => none) 0 0 22) 22 (some v)))))))] ++ fz) t.heap ∧ va_K (dC, dI) vwCl [(cO, .object "java/lang/Object")] t ∧ va_D (va_A ([(x, .inr (14, [.ref ed, .int 22, .int mo])), (ed, .inl (cO, 22, .inr (.inr (.inr (.inr f)))))] ++ fz) sz) ([(x, .inr (14, [.ref ew, .int 23, .int mo])), (ew, .inl (cO, 33, .inr (.inr (.inr (.inr (va_up (va_cpy f (fun _ => none) 0 0 22) 22 (some v)))))))] ++ fz)) (va_A ([(x, .inr (14, [.ref ed, .int 22, .int mo])), (ed, .inl (cO, 22, .inr (.inr (.inr (.inr f)))))] ++ fz) sz)) 1 33 (va_A ([(x, .inr (14, [.ref ed, .int 22, .int mo])), (ed, .inl (cO, 22, .inr (.inr (.inr (.inr f)))))] ++ fz) sz) := by
  refine Met.ofW (cc := c_AL_add2) (maxL := 4) (ret := none) (by decide) rfl ?_
  intro p e s m args below meth c s₁ B hml hv
  obtain ⟨rfl, hsz, hP, hK, hD0, hE⟩ := hv
  have hx := B.exec
  have hb := B.bytes
  have hr := B.returns
  have hts := atoms_spec (ws := ws_AL_add2) B.pre
  have htb := fun w (h : w ∈ TBL) => hts w (List.mem_cons_of_mem _ h)
  have hown : s.vm.findClass R_AL = some m.cls := findClass_of_methodNamed B.named
  have hlocks := B.notSynchronized
  subst hsz
  have hD := hD0.self (sz := s.heap.size)
  generalize hAe : va_A ([(x, .inr (14, [.ref ed, .int 22, .int mo])), (ed, .inl (cO, 22, .inr (.inr (.inr (.inr f)))))] ++ fz) s.heap.size = A at hD hE ⊢
  have hA : ∀ q : Nat, s.heap.size ≤ q → A q := fun q h => by rw [← hAe]; exact Or.inr h
  have hS : va_S A s.heap s.heap [] := va_S.rf
  have hP : va_P (dC, dI) vwCl ([(x, .inr (14, [.ref ed, .int 22, .int mo])), (ed, .inl (cO, 22, .inr (.inr (.inr (.inr f)))))] ++ fz) s.heap := hP
  have hl := lv_entry ([.ref x, .ref v, .ref ed, .int 22]) (n := 4) (Nat.le_of_ble_eq_true rfl)
  rw [lg_entry_eq]
  generalize (lg_sl ([.ref x, .ref v, .ref ed, .int 22]) ++ List.replicate (4 - (lg_sl ([.ref x, .ref v, .ref ed, .int 22])).length) Slot.unset).toArray = ls at hl ⊢
  have hl : lv_has ls 4 [(0, .ref x), (1, .ref v), (2, .ref ed), (3, .int 22)] := hl
  refine lv_iload_n hx hb d_AL_add2_0 rfl (lv_at hl 3 rfl) ?_
  refine lv_aload_n hx hb d_AL_add2_1 rfl (lv_at hl 2 rfl) ?_
  refine va_alen (v := 22) hx hb hK hP 1 0 rfl rfl rfl d_AL_add2_2 ?_
  refine lv_icmp_ne (tgt := 11) hx hb d_AL_add2_3 rfl (fun h9 => absurd (rfl) h9) (fun _ => ?_)
  refine lv_aload_n hx hb d_AL_add2_6 rfl (lv_at hl 0 rfl) ?_
  have hPc := zz_pickP (pre := [(x, .inr (14, [.ref ed, .int 22, .int mo])), (ed, .inl (cO, 22, .inr (.inr (.inr (.inr f)))))]) (fz := fz) (wc := [(x, .inr (14, [.ref ed, .int 22, .int mo])), (ed, .inl (cO, 22, .inr (.inr (.inr (.inr f)))))]) hP [0, 1] rfl
  have hDc := zz_pickD (pre := [(x, .inr (14, [.ref ed, .int 22, .int mo])), (ed, .inl (cO, 22, .inr (.inr (.inr (.inr f)))))]) (fz := fz) (wc := [(x, .inr (14, [.ref ed, .int 22, .int mo])), (ed, .inl (cO, 22, .inr (.inr (.inr (.inr f)))))]) hD [0, 1] (by decide) rfl
  have hFc := zz_free (pre := [(x, .inr (14, [.ref ed, .int 22, .int mo])), (ed, .inl (cO, 22, .inr (.inr (.inr (.inr f)))))]) (fz := fz) (wc := [(x, .inr (14, [.ref ed, .int 22, .int mo])), (ed, .inl (cO, 22, .inr (.inr (.inr (.inr f)))))]) hD hS hA [0, 1] rfl
  have hKc := hK.sub (tys' := [(cO, .object "java/lang/Object")]) [0] rfl
  refine va_callr (va_runV (As := []) (rest := []) ⟨hx, hb, hml, hown, htb⟩ (k_AL_grow_22 l dC dI _ x mo ed cO f ci em aK aV fz hci hel) (cwV 0 htb (g_V (fun _ h => h) m_533 m_530 m_532 m_1631 m_8) rfl rfl rfl (by decide +kernel) ⟨Nat.le_of_ble_eq_true rfl, Nat.le_of_ble_eq_true rfl⟩) ⟨fun a U g mk q => by obtain ⟨q0, q1, qP, qK, qD, z0⟩ := q; exact ⟨q0, q1, qP, va_K.moved (u := U) (U := U.calling g mk a) (Vm.Alike.refl U.vm) qK, qD, EX.same (U := U) (U' := U.calling g mk a) rfl z0⟩, va_recv hK hP (ci := 14) rfl (q0 := 0) rfl, fun U hU hW => ⟨rfl, by rw [hU], by rw [hU]; exact hPc, va_K.moved hW.alike hKc, hDc.weaken (fun _ _ _ _ => trivial), by rw [hU]; exact EX.warm hW ((hE.kept (fun a h1 h2 => hS.2.1 a h1 h2)).narrow hFc)⟩⟩ rfl rfl hl.1 rfl (lv_room (Nat.le_of_ble_eq_true rfl)) d_AL_add2_7 ⟨Nat.le_of_ble_eq_true rfl, Nat.le_of_ble_eq_true rfl⟩) hS (fun q _ h => hFc q h) hFc (fun u1 ra4 t H1 locs ht hvm hw3 hB hz1 hk1 hS => ?_)
  obtain ⟨hP1, hK1, hD1⟩ := hB
  rw [ht] at hP1
  have hK1 := va_K.moved hvm.symm hK1
  have hw3 : True := hw3
  obtain ⟨hP, hD⟩ := zz_join (pre := [(x, .inr (14, [.ref ed, .int 22, .int mo])), (ed, .inl (cO, 22, .inr (.inr (.inr (.inr f)))))]) (fz := fz) (wc := [(x, .inr (14, [.ref ed, .int 22, .int mo])), (ed, .inl (cO, 22, .inr (.inr (.inr (.inr f)))))]) (wr := []) (w1 := ([(x, .inr (14, [.ref ra4, .int 22, .int mo])), (ra4, .inl (cO, 33, .inr (.inr (.inr (.inr (va_cpy f (fun _ => none) 0 0 22))))))] ++ fz)) hP hD [0, 1] [] rfl rfl (by decide) (by decide) hk1 hFc hP1 hD1
  have hK := (hK.sub (tys' := []) [] rfl).app hK1
  generalize H1 = H at hP hS ⊢
  have hP : va_P (dC, dI) vwCl ([(x, .inr (14, [.ref ra4, .int 22, .int mo])), (ra4, .inl (cO, 33, .inr (.inr (.inr (.inr (va_cpy f (fun _ => none) 0 0 22))))))] ++ fz) H := hP
  have hD : va_D A ([(x, .inr (14, [.ref ra4, .int 22, .int mo])), (ra4, .inl (cO, 33, .inr (.inr (.inr (.inr (va_cpy f (fun _ => none) 0 0 22))))))] ++ fz) := hD
  have hK : va_K (dC, dI) vwCl [(cO, .object "java/lang/Object")] s := hK
  refine W.widen (k := 1) (n := 33) (Nat.le_of_ble_eq_true rfl) (Nat.le_of_ble_eq_true rfl) ?_
  refine lv_astore_n hx hb d_AL_add2_10 rfl hl (by decide) rfl (fun ls hl => ?_)
  have hl : lv_has ls 4 [(2, .ref ra4), (0, .ref x), (1, .ref v), (3, .int 22)] := hl
  refine lv_aload_n hx hb d_AL_add2_11 rfl (lv_at hl 0 rfl) ?_
  refine lv_iload_n hx hb d_AL_add2_12 rfl (lv_at hl 3 rfl) ?_
  refine lv_aload_n hx hb d_AL_add2_13 rfl (lv_at hl 2 rfl) ?_
  refine va_astqM hx hb hK hP hD hS 1 0 rfl rfl (zz_any hE hci hK hP (hv.app _)) (vp_in_iff.mpr (by decide)) d_AL_add2_14 (fun H locs hP hD hS => ?_)
  have hP : va_P (dC, dI) vwCl ([(x, .inr (14, [.ref ra4, .int 22, .int mo])), (ra4, .inl (cO, 33, .inr (.inr (.inr (.inr (va_up (va_cpy f (fun _ => none) 0 0 22) 22 (some v)))))))] ++ fz) H := hP
  have hD : va_D A ([(x, .inr (14, [.ref ra4, .int 22, .int mo])), (ra4, .inl (cO, 33, .inr (.inr (.inr (.inr (va_up (va_cpy f (fun _ => none) 0 0 22) 22 (some v)))))))] ++ fz) := hD
  refine lv_aload_n hx hb d_AL_add2_15 rfl (lv_at hl 1 rfl) ?_
  refine lv_iload_n hx hb d_AL_add2_16 rfl (lv_at hl 3 rfl) ?_
  refine lv_iconst (v := 1) hx hb d_AL_add2_17 (by decide) ?_
  refine lv_iadd hx hb d_AL_add2_18 ?_
  refine W.eq (congrArg (fun z => F0 m 19 ls (.int z :: [.ref x])) (by decide : ((22 : Int32) + 1) = 23)) ?_
  refine va_put (D := (dC, dI)) (ci := 14) (v := .int 23) (ty := .int) (C := R_AL) (T := T_AL) (N := 3) hx hb htb in_AL ty_AL ty_AL_ok nm_AL hown hK hP hD hS 0 rfl rfl 1 (by decide) (htb _ m_88) (fun _ h9 => h9) rfl (by decide +kernel) rfl rfl (Nat.le_of_ble_eq_true rfl) d_AL_add2_19 (fun H locs hP hD hS => ?_)
  have hP : va_P (dC, dI) vwCl ([(x, .inr (14, [.ref ra4, .int 23, .int mo])), (ra4, .inl (cO, 33, .inr (.inr (.inr (.inr (va_up (va_cpy f (fun _ => none) 0 0 22) 22 (some v)))))))] ++ fz) H := hP
  have hD : va_D A ([(x, .inr (14, [.ref ra4, .int 23, .int mo])), (ra4, .inl (cO, 33, .inr (.inr (.inr (.inr (va_up (va_cpy f (fun _ => none) 0 0 22) 22 (some v)))))))] ++ fz) := hD
  have hP9 := zz_pickP (pre := [(x, .inr (14, [.ref ra4, .int 23, .int mo])), (ra4, .inl (cO, 33, .inr (.inr (.inr (.inr (va_up (va_cpy f (fun _ => none) 0 0 22) 22 (some v)))))))]) (fz := fz) (wc := [(x, .inr (14, [.ref ra4, .int 23, .int mo])), (ra4, .inl (cO, 33, .inr (.inr (.inr (.inr (va_up (va_cpy f (fun _ => none) 0 0 22) 22 (some v)))))))]) hP [0, 1] rfl
  have hD9 := zz_pickD (pre := [(x, .inr (14, [.ref ra4, .int 23, .int mo])), (ra4, .inl (cO, 33, .inr (.inr (.inr (.inr (va_up (va_cpy f (fun _ => none) 0 0 22) 22 (some v)))))))]) (fz := fz) (wc := [(x, .inr (14, [.ref ra4, .int 23, .int mo])), (ra4, .inl (cO, 33, .inr (.inr (.inr (.inr (va_up (va_cpy f (fun _ => none) 0 0 22) 22 (some v)))))))]) hD [0, 1] (by decide) rfl
  have hK9 := hK.sub (tys' := [(cO, .object "java/lang/Object")]) [0] rfl
  refine W.widen (k := 1) (n := 33) (Nat.le_of_ble_eq_true rfl) (Nat.le_of_ble_eq_true rfl) ?_
  exact W.vret hx hb hr (fun t ht hW => ⟨⟨(), rfl, trivial, ⟨ra4, by rw [ht]; exact hP9, va_K.moved hW.alike hK9, hD9⟩⟩, hS.F ht⟩) hS.2.2 d_AL_add2_22
set_option maxHeartbeats 1000000 in
set_option maxRecDepth 100000 in
/-- add(v, table, 33): the table grows -/
theorem k_AL_add2_33 (l : Launch) (dC : Nat → ClassId) (dI : Nat → Nat → Nat) (sz : Nat) (x : Nat) (mo : Int32) (ed : Nat) (cO : ClassId) (f : Nat → Option Nat) (ci : Nat) (em : Nat) (aK : Nat → Nat) (aV : Nat → Nat) (v : Nat) (fz : va_W) (hci : Oci ci) (hel : ∀ i, i < 33 → ∀ y, f i = some y → Vin ci fz y) (hv : Vin ci fz v) : Met l y_AL_add2 ws_AL_add2 ({ frames := 5, cells := 1, slots := 49, locals := 127 }) (va_Pc [.ref x, .ref v, .ref ed, .int 33] (fun U => U.heap.size = sz ∧ va_P (dC, dI) vwCl ([(x, .inr (14, [.ref ed, .int 33, .int mo])), (ed, .inl (cO, 33, .inr (.inr (.inr (.inr f)))))] ++ fz) U.heap ∧ va_K (dC, dI) vwCl [(cO, .object "java/lang/Object")] U ∧ va_D (fun _ => True) ([(x, .inr (14, [.ref ed, .int 33, .int mo])), (ed, .inl (cO, 33, .inr (.inr (.inr (.inr f)))))] ++ fz) ∧ EX em aK aV (va_A ([(x, .inr (14, [.ref ed, .int 33, .int mo])), (ed, .inl (cO, 33, .inr (.inr (.inr (.inr f)))))] ++ fz) sz) U U.heap)) (va_Qv (fun (u : Unit) => True) (fun u t => ∃ (ew : Nat), va_P (dC, dI) vwCl ([(x, .inr (14, [.ref ew, .int 34, .int mo])), (ew, .inl (cO, 49, .inr (.inr (.inr (.inr (va_up (va_cpy f (fun _ => none) 0 0 33) 33 (some v)))))))] ++ fz) t.heap ∧ va_K (dC, dI) vwCl [(cO, .object "java/lang/Object")] t ∧ va_D (va_A ([(x, .inr (14, [.ref ed, .int 33, .int mo])), (ed, .inl (cO, 33, .inr (.inr (.inr (.inr f)))))] ++ fz) sz) ([(x, .inr (14, [.ref ew, .int 34, .int mo])), (ew, .inl (cO, 49, .inr (.inr (.inr (.inr (va_up (va_cpy f (fun _ => none) 0 0 33) 33 (some v)))))))] ++ fz)) (va_A ([(x, .inr (14, [.ref ed, .int 33, .int mo])), (ed, .inl (cO, 33, .inr (.inr (.inr (.inr f)))))] ++ fz) sz)) 1 49 (va_A ([(x, .inr (14, [.ref ed, .int 33, .int mo])), (ed, .inl (cO, 33, .inr (.inr (.inr (.inr f)))))] ++ fz) sz) := by
  refine Met.ofW (cc := c_AL_add2) (maxL := 4) (ret := none) (by decide) rfl ?_
  intro p e s m args below meth c s₁ B hml hv
  obtain ⟨rfl, hsz, hP, hK, hD0, hE⟩ := hv
  have hx := B.exec
  have hb := B.bytes
  have hr := B.returns
  have hts := atoms_spec (ws := ws_AL_add2) B.pre
  have htb := fun w (h : w ∈ TBL) => hts w (List.mem_cons_of_mem _ h)
  have hown : s.vm.findClass R_AL = some m.cls := findClass_of_methodNamed B.named
  have hlocks := B.notSynchronized
  subst hsz
  have hD := hD0.self (sz := s.heap.size)
  generalize hAe : va_A ([(x, .inr (14, [.ref ed, .int 33, .int mo])), (ed, .inl (cO, 33, .inr (.inr (.inr (.inr f)))))] ++ fz) s.heap.size = A at hD hE ⊢
  have hA : ∀ q : Nat, s.heap.size ≤ q → A q := fun q h => by rw [← hAe]; exact Or.inr h
  have hS : va_S A s.heap s.heap [] := va_S.rf
  have hP : va_P (dC, dI) vwCl ([(x, .inr (14, [.ref ed, .int 33, .int mo])), (ed, .inl (cO, 33, .inr (.inr (.inr (.inr f)))))] ++ fz) s.heap := hP
  have hl := lv_entry ([.ref x, .ref v, .ref ed, .int 33]) (n := 4) (Nat.le_of_ble_eq_true rfl)
  rw [lg_entry_eq]
  generalize (lg_sl ([.ref x, .ref v, .ref ed, .int 33]) ++ List.replicate (4 - (lg_sl ([.ref x, .ref v, .ref ed, .int 33])).length) Slot.unset).toArray = ls at hl ⊢
  have hl : lv_has ls 4 [(0, .ref x), (1, .ref v), (2, .ref ed), (3, .int 33)] := hl
  refine lv_iload_n hx hb d_AL_add2_0 rfl (lv_at hl 3 rfl) ?_
  refine lv_aload_n hx hb d_AL_add2_1 rfl (lv_at hl 2 rfl) ?_
  refine va_alen (v := 33) hx hb hK hP 1 0 rfl rfl rfl d_AL_add2_2 ?_
  refine lv_icmp_ne (tgt := 11) hx hb d_AL_add2_3 rfl (fun h9 => absurd (rfl) h9) (fun _ => ?_)
  refine lv_aload_n hx hb d_AL_add2_6 rfl (lv_at hl 0 rfl) ?_
  have hPc := zz_pickP (pre := [(x, .inr (14, [.ref ed, .int 33, .int mo])), (ed, .inl (cO, 33, .inr (.inr (.inr (.inr f)))))]) (fz := fz) (wc := [(x, .inr (14, [.ref ed, .int 33, .int mo])), (ed, .inl (cO, 33, .inr (.inr (.inr (.inr f)))))]) hP [0, 1] rfl
  have hDc := zz_pickD (pre := [(x, .inr (14, [.ref ed, .int 33, .int mo])), (ed, .inl (cO, 33, .inr (.inr (.inr (.inr f)))))]) (fz := fz) (wc := [(x, .inr (14, [.ref ed, .int 33, .int mo])), (ed, .inl (cO, 33, .inr (.inr (.inr (.inr f)))))]) hD [0, 1] (by decide) rfl
  have hFc := zz_free (pre := [(x, .inr (14, [.ref ed, .int 33, .int mo])), (ed, .inl (cO, 33, .inr (.inr (.inr (.inr f)))))]) (fz := fz) (wc := [(x, .inr (14, [.ref ed, .int 33, .int mo])), (ed, .inl (cO, 33, .inr (.inr (.inr (.inr f)))))]) hD hS hA [0, 1] rfl
  have hKc := hK.sub (tys' := [(cO, .object "java/lang/Object")]) [0] rfl
  refine va_callr (va_runV (As := []) (rest := []) ⟨hx, hb, hml, hown, htb⟩ (k_AL_grow_33 l dC dI _ x mo ed cO f ci em aK aV fz hci hel) (cwV 0 htb (g_V (fun _ h => h) m_533 m_530 m_532 m_1631 m_8) rfl rfl rfl (by decide +kernel) ⟨Nat.le_of_ble_eq_true rfl, Nat.le_of_ble_eq_true rfl⟩) ⟨fun a U g mk q => by obtain ⟨q0, q1, qP, qK, qD, z0⟩ := q; exact ⟨q0, q1, qP, va_K.moved (u := U) (U := U.calling g mk a) (Vm.Alike.refl U.vm) qK, qD, EX.same (U := U) (U' := U.calling g mk a) rfl z0⟩, va_recv hK hP (ci := 14) rfl (q0 := 0) rfl, fun U hU hW => ⟨rfl, by rw [hU], by rw [hU]; exact hPc, va_K.moved hW.alike hKc, hDc.weaken (fun _ _ _ _ => trivial), by rw [hU]; exact EX.warm hW ((hE.kept (fun a h1 h2 => hS.2.1 a h1 h2)).narrow hFc)⟩⟩ rfl rfl hl.1 rfl (lv_room (Nat.le_of_ble_eq_true rfl)) d_AL_add2_7 ⟨Nat.le_of_ble_eq_true rfl, Nat.le_of_ble_eq_true rfl⟩) hS (fun q _ h => hFc q h) hFc (fun u1 ra4 t H1 locs ht hvm hw3 hB hz1 hk1 hS => ?_)
  obtain ⟨hP1, hK1, hD1⟩ := hB
  rw [ht] at hP1
  have hK1 := va_K.moved hvm.symm hK1
  have hw3 : True := hw3
  obtain ⟨hP, hD⟩ := zz_join (pre := [(x, .inr (14, [.ref ed, .int 33, .int mo])), (ed, .inl (cO, 33, .inr (.inr (.inr (.inr f)))))]) (fz := fz) (wc := [(x, .inr (14, [.ref ed, .int 33, .int mo])), (ed, .inl (cO, 33, .inr (.inr (.inr (.inr f)))))]) (wr := []) (w1 := ([(x, .inr (14, [.ref ra4, .int 33, .int mo])), (ra4, .inl (cO, 49, .inr (.inr (.inr (.inr (va_cpy f (fun _ => none) 0 0 33))))))] ++ fz)) hP hD [0, 1] [] rfl rfl (by decide) (by decide) hk1 hFc hP1 hD1
  have hK := (hK.sub (tys' := []) [] rfl).app hK1
  generalize H1 = H at hP hS ⊢
  have hP : va_P (dC, dI) vwCl ([(x, .inr (14, [.ref ra4, .int 33, .int mo])), (ra4, .inl (cO, 49, .inr (.inr (.inr (.inr (va_cpy f (fun _ => none) 0 0 33))))))] ++ fz) H := hP
  have hD : va_D A ([(x, .inr (14, [.ref ra4, .int 33, .int mo])), (ra4, .inl (cO, 49, .inr (.inr (.inr (.inr (va_cpy f (fun _ => none) 0 0 33))))))] ++ fz) := hD
  have hK : va_K (dC, dI) vwCl [(cO, .object "java/lang/Object")] s := hK
  refine W.widen (k := 1) (n := 49) (Nat.le_of_ble_eq_true rfl) (Nat.le_of_ble_eq_true rfl) ?_
  refine lv_astore_n hx hb d_AL_add2_10 rfl hl (by decide) rfl (fun ls hl => ?_)
  have hl : lv_has ls 4 [(2, .ref ra4), (0, .ref x), (1, .ref v), (3, .int 33)] := hl
  refine lv_aload_n hx hb d_AL_add2_11 rfl (lv_at hl 0 rfl) ?_
  refine lv_iload_n hx hb d_AL_add2_12 rfl (lv_at hl 3 rfl) ?_
  refine lv_aload_n hx hb d_AL_add2_13 rfl (lv_at hl 2 rfl) ?_
  refine va_astqM hx hb hK hP hD hS 1 0 rfl rfl (zz_any hE hci hK hP (hv.app _)) (vp_in_iff.mpr (by decide)) d_AL_add2_14 (fun H locs hP hD hS => ?_)
  have hP : va_P (dC, dI) vwCl ([(x, .inr (14, [.ref ra4, .int 33, .int mo])), (ra4, .inl (cO, 49, .inr (.inr (.inr (.inr (va_up (va_cpy f (fun _ => none) 0 0 33) 33 (some v)))))))] ++ fz) H := hP
  have hD : va_D A ([(x, .inr (14, [.ref ra4, .int 33, .int mo])), (ra4, .inl (cO, 49, .inr (.inr (.inr (.inr (va_up (va_cpy f (fun _ => none) 0 0 33) 33 (some v)))))))] ++ fz) := hD
  refine lv_aload_n hx hb d_AL_add2_15 rfl (lv_at hl 1 rfl) ?_
  refine lv_iload_n hx hb d_AL_add2_16 rfl (lv_at hl 3 rfl) ?_
  refine lv_iconst (v := 1) hx hb d_AL_add2_17 (by decide) ?_
  refine lv_iadd hx hb d_AL_add2_18 ?_
  refine W.eq (congrArg (fun z => F0 m 19 ls (.int z :: [.ref x])) (by decide : ((33 : Int32) + 1) = 34)) ?_
  refine va_put (D := (dC, dI)) (ci := 14) (v := .int 34) (ty := .int) (C := R_AL) (T := T_AL) (N := 3) hx hb htb in_AL ty_AL ty_AL_ok nm_AL hown hK hP hD hS 0 rfl rfl 1 (by decide) (htb _ m_88) (fun _ h9 => h9) rfl (by decide +kernel) rfl rfl (Nat.le_of_ble_eq_true rfl) d_AL_add2_19 (fun H locs hP hD hS => ?_)
  have hP : va_P (dC, dI) vwCl ([(x, .inr (14, [.ref ra4, .int 34, .int mo])), (ra4, .inl (cO, 49, .inr (.inr (.inr (.inr (va_up (va_cpy f (fun _ => none) 0 0 33) 33 (some v)))))))] ++ fz) H := hP
  have hD : va_D A ([(x, .inr (14, [.ref ra4, .int 34, .int mo])), (ra4, .inl (cO, 49, .inr (.inr (.inr (.inr (va_up (va_cpy f (fun _ => none) 0 0 33) 33 (some v)))))))] ++ fz) := hD
  have hP9 := zz_pickP (pre := [(x, .inr (14, [.ref ra4, .int 34, .int mo])), (ra4, .inl (cO, 49, .inr (.inr (.inr (.inr (va_up (va_cpy f (fun _ => none) 0 0 33) 33 (some v)))))))]) (fz := fz) (wc := [(x, .inr (14, [.ref ra4, .int 34, .int mo])), (ra4, .inl (cO, 49, .inr (.inr (.inr (.inr (va_up (va_cpy f (fun _ => none) 0 0 33) 33 (some v)))))))]) hP [0, 1] rfl
  have hD9 := zz_pickD (pre := [(x, .inr (14, [.ref ra4, .int 34, .int mo])), (ra4, .inl (cO, 49, .inr (.inr (.inr (.inr (va_up (va_cpy f (fun _ => none) 0 0 33) 33 (some v)))))))]) (fz := fz) (wc := [(x, .inr (14, [.ref ra4, .int 34, .int mo])), (ra4, .inl (cO, 49, .inr (.inr (.inr (.inr (va_up (va_cpy f (fun _ => none) 0 0 33) 33 (some v)))))))]) hD [0, 1] (by decide) rfl
  have hK9 := hK.sub (tys' := [(cO, .object "java/lang/Object")]) [0] rfl
  refine W.widen (k := 1) (n := 49) (Nat.le_of_ble_eq_true rfl) (Nat.le_of_ble_eq_true rfl) ?_
  exact W.vret hx hb hr (fun t ht hW => ⟨⟨(), rfl, trivial, ⟨ra4, by rw [ht]; exact hP9, va_K.moved hW.alike hK9, hD9⟩⟩, hS.F ht⟩) hS.2.2 d_AL_add2_22
set_option maxHeartbeats 1000000 in
set_option maxRecDepth 100000 in
/-- add(v, table, 49): the table grows -/
theorem k_AL_add2_49 (l : Launch) (dC : Nat → ClassId) (dI : Nat → Nat → Nat) (sz : Nat) (x : Nat) (mo : Int32) (ed : Nat) (cO : ClassId) (f : Nat → Option Nat) (ci : Nat) (em : Nat) (aK : Nat → Nat) (aV : Nat → Nat) (v : Nat) (fz : va_W) (hci : Oci ci) (hel : ∀ i, i < 49 → ∀ y, f i = some y → Vin ci fz y) (hv : Vin ci fz v) : Met l y_AL_add2 ws_AL_add2 ({ frames := 5, cells := 1, slots := 73, locals := 127 }) (va_Pc [.ref x, .ref v, .ref ed, .int 49] (fun U => U.heap.size = sz ∧ va_P (dC, dI) vwCl ([(x, .inr (14, [.ref ed, .int 49, .int mo])), (ed, .inl (cO, 49, .inr (.inr (.inr (.inr f)))))] ++ fz) U.heap ∧ va_K (dC, dI) vwCl [(cO, .object "java/lang/Object")] U ∧ va_D (fun _ => True) ([(x, .inr (14, [.ref ed, .int 49, .int mo])), (ed, .inl (cO, 49, .inr (.inr (.inr (.inr f)))))] ++ fz) ∧ EX em aK aV (va_A ([(x, .inr (14, [.ref ed, .int 49, .int mo])), (ed, .inl (cO, 49, .inr (.inr (.inr (.inr f)))))] ++ fz) sz) U U.heap)) (va_Qv (fun (u : Unit) => True) (fun u t => ∃ (ew : Nat), va_P (dC, dI) vwCl ([(x, .inr (14, [.ref ew, .int 50, .int mo])), (ew, .inl (cO, 73, .inr (.inr (.inr (.inr (va_up (va_cpy f (fun _ => none) 0 0 49) 49 (some v)))))))] ++ fz) t.heap ∧ va_K (dC, dI) vwCl [(cO, .object "java/lang/Object")] t ∧ va_D (va_A ([(x, .inr (14, [.ref ed, .int 49, .int mo])), (ed, .inl (cO, 49, .inr (.inr (.inr (.inr f)))))] ++ fz) sz) ([(x, .inr (14, [.ref ew, .int 50, .int mo])), (ew, .inl (cO, 73, .inr (.inr (.inr (.inr (va_up (va_cpy f (fun _ => none) 0 0 49) 49 (some v)))))))] ++ fz)) (va_A ([(x, .inr (14, [.ref ed, .int 49, .int mo])), (ed, .inl (cO, 49, .inr (.inr (.inr (.inr f)))))] ++ fz) sz)) 1 73 (va_A ([(x, .inr (14, [.ref ed, .int 49, .int mo])), (ed, .inl (cO, 49, .inr (.inr (.inr (.inr f)))))] ++ fz) sz) := by
  refine Met.ofW (cc := c_AL_add2) (maxL := 4) (ret := none) (by decide) rfl ?_
  intro p e s m args below meth c s₁ B hml hv
  obtain ⟨rfl, hsz, hP, hK, hD0, hE⟩ := hv
  have hx := B.exec
  have hb := B.bytes
  have hr := B.returns
  have hts := atoms_spec (ws := ws_AL_add2) B.pre
  have htb := fun w (h : w ∈ TBL) => hts w (List.mem_cons_of_mem _ h)
  have hown : s.vm.findClass R_AL = some m.cls := findClass_of_methodNamed B.named
  have hlocks := B.notSynchronized
  subst hsz
  have hD := hD0.self (sz := s.heap.size)
  generalize hAe : va_A ([(x, .inr (14, [.ref ed, .int 49, .int mo])), (ed, .inl (cO, 49, .inr (.inr (.inr (.inr f)))))] ++ fz) s.heap.size = A at hD hE ⊢
  have hA : ∀ q : Nat, s.heap.size ≤ q → A q := fun q h => by rw [← hAe]; exact Or.inr h
  have hS : va_S A s.heap s.heap [] := va_S.rf
  have hP : va_P (dC, dI) vwCl ([(x, .inr (14, [.ref ed, .int 49, .int mo])), (ed, .inl (cO, 49, .inr (.inr (.inr (.inr f)))))] ++ fz) s.heap := hP
  have hl := lv_entry ([.ref x, .ref v, .ref ed, .int 49]) (n := 4) (Nat.le_of_ble_eq_true rfl)
  rw [lg_entry_eq]
  generalize (lg_sl ([.ref x, .ref v, .ref ed, .int 49]) ++ List.replicate (4 - (lg_sl ([.ref x, .ref v, .ref ed, .int 49])).length) Slot.unset).toArray = ls at hl ⊢
  have hl : lv_has ls 4 [(0, .ref x), (1, .ref v), (2, .ref ed), (3, .int 49)] := hl
  refine lv_iload_n hx hb d_AL_add2_0 rfl (lv_at hl 3 rfl) ?_
  refine lv_aload_n hx hb d_AL_add2_1 rfl (lv_at hl 2 rfl) ?_
  refine va_alen (v := 49) hx hb hK hP 1 0 rfl rfl rfl d_AL_add2_2 ?_
  refine lv_icmp_ne (tgt := 11) hx hb d_AL_add2_3 rfl (fun h9 => absurd (rfl) h9) (fun _ => ?_)
  refine lv_aload_n hx hb d_AL_add2_6 rfl (lv_at hl 0 rfl) ?_
  have hPc := zz_pickP (pre := [(x, .inr (14, [.ref ed, .int 49, .int mo])), (ed, .inl (cO, 49, .inr (.inr (.inr (.inr f)))))]) (fz := fz) (wc := [(x, .inr (14, [.ref ed, .int 49, .int mo])), (ed, .inl (cO, 49, .inr (.inr (.inr (.inr f)))))]) hP [0, 1] rfl
  have hDc := zz_pickD (pre := [(x, .inr (14, [.ref ed, .int 49, .int mo])), (ed, .inl (cO, 49, .inr (.inr (.inr (.inr f)))))]) (fz := fz) (wc := [(x, .inr (14, [.ref ed, .int 49, .int mo])), (ed, .inl (cO, 49, .inr (.inr (.inr (.inr f)))))]) hD [0, 1] (by decide) rfl
  have hFc := zz_free (pre := [(x, .inr (14, [.ref ed, .int 49, .int mo])), (ed, .inl (cO, 49, .inr (.inr (.inr (.inr f)))))]) (fz := fz) (wc := [(x, .inr (14, [.ref ed, .int 49, .int mo])), (ed, .inl (cO, 49, .inr (.inr (.inr (.inr f)))))]) hD hS hA [0, 1] rfl
  have hKc := hK.sub (tys' := [(cO, .object "java/lang/Object")]) [0] rfl
  refine va_callr (va_runV (As := []) (rest := []) ⟨hx, hb, hml, hown, htb⟩ (k_AL_grow_49 l dC dI _ x mo ed cO f ci em aK aV fz hci hel) (cwV 0 htb (g_V (fun _ h => h) m_533 m_530 m_532 m_1631 m_8) rfl rfl rfl (by decide +kernel) ⟨Nat.le_of_ble_eq_true rfl, Nat.le_of_ble_eq_true rfl⟩) ⟨fun a U g mk q => by obtain ⟨q0, q1, qP, qK, qD, z0⟩ := q; exact ⟨q0, q1, qP, va_K.moved (u := U) (U := U.calling g mk a) (Vm.Alike.refl U.vm) qK, qD, EX.same (U := U) (U' := U.calling g mk a) rfl z0⟩, va_recv hK hP (ci := 14) rfl (q0 := 0) rfl, fun U hU hW => ⟨rfl, by rw [hU], by rw [hU]; exact hPc, va_K.moved hW.alike hKc, hDc.weaken (fun _ _ _ _ => trivial), by rw [hU]; exact EX.warm hW ((hE.kept (fun a h1 h2 => hS.2.1 a h1 h2)).narrow hFc)⟩⟩ rfl rfl hl.1 rfl (lv_room (Nat.le_of_ble_eq_true rfl)) d_AL_add2_7 ⟨Nat.le_of_ble_eq_true rfl, Nat.le_of_ble_eq_true rfl⟩) hS (fun q _ h => hFc q h) hFc (fun u1 ra4 t H1 locs ht hvm hw3 hB hz1 hk1 hS => ?_)
  obtain ⟨hP1, hK1, hD1⟩ := hB
  rw [ht] at hP1
  have hK1 := va_K.moved hvm.symm hK1
  have hw3 : True := hw3
  obtain ⟨hP, hD⟩ := zz_join (pre := [(x, .inr (14, [.ref ed, .int 49, .int mo])), (ed, .inl (cO, 49, .inr (.inr (.inr (.inr f)))))]) (fz := fz) (wc := [(x, .inr (14, [.ref ed, .int 49, .int mo])), (ed, .inl (cO, 49, .inr (.inr (.inr (.inr f)))))]) (wr := []) (w1 := ([(x, .inr (14, [.ref ra4, .int 49, .int mo])), (ra4, .inl (cO, 73, .inr (.inr (.inr (.inr (va_cpy f (fun _ => none) 0 0 49))))))] ++ fz)) hP hD [0, 1] [] rfl rfl (by decide) (by decide) hk1 hFc hP1 hD1
  have hK := (hK.sub (tys' := []) [] rfl).app hK1
  generalize H1 = H at hP hS ⊢
  have hP : va_P (dC, dI) vwCl ([(x, .inr (14, [.ref ra4, .int 49, .int mo])), (ra4, .inl (cO, 73, .inr (.inr (.inr (.inr (va_cpy f (fun _ => none) 0 0 49))))))] ++ fz) H := hP
  have hD : va_D A ([(x, .inr (14, [.ref ra4, .int 49, .int mo])), (ra4, .inl (cO, 73, .inr (.inr (.inr (.inr (va_cpy f (fun _ => none) 0 0 49))))))] ++ fz) := hD
  have hK : va_K (dC, dI) vwCl [(cO, .object "java/lang/Object")] s := hK
  refine W.widen (k := 1) (n := 73) (Nat.le_of_ble_eq_true rfl) (Nat.le_of_ble_eq_true rfl) ?_
  refine lv_astore_n hx hb d_AL_add2_10 rfl hl (by decide) rfl (fun ls hl => ?_)
  have hl : lv_has ls 4 [(2, .ref ra4), (0, .ref x), (1, .ref v), (3, .int 49)] := hl
  refine lv_aload_n hx hb d_AL_add2_11 rfl (lv_at hl 0 rfl) ?_
  refine lv_iload_n hx hb d_AL_add2_12 rfl (lv_at hl 3 rfl) ?_
  refine lv_aload_n hx hb d_AL_add2_13 rfl (lv_at hl 2 rfl) ?_
  refine va_astqM hx hb hK hP hD hS 1 0 rfl rfl (zz_any hE hci hK hP (hv.app _)) (vp_in_iff.mpr (by decide)) d_AL_add2_14 (fun H locs hP hD hS => ?_)
  have hP : va_P (dC, dI) vwCl ([(x, .inr (14, [.ref ra4, .int 49, .int mo])), (ra4, .inl (cO, 73, .inr (.inr (.inr (.inr (va_up (va_cpy f (fun _ => none) 0 0 49) 49 (some v)))))))] ++ fz) H := hP
  have hD : va_D A ([(x, .inr (14, [.ref ra4, .int 49, .int mo])), (ra4, .inl (cO, 73, .inr (.inr (.inr (.inr (va_up (va_cpy f (fun _ => none) 0 0 49) 49 (some v)))))))] ++ fz) := hD
  refine lv_aload_n hx hb d_AL_add2_15 rfl (lv_at hl 1 rfl) ?_
  refine lv_iload_n hx hb d_AL_add2_16 rfl (lv_at hl 3 rfl) ?_
  refine lv_iconst (v := 1) hx hb d_AL_add2_17 (by decide) ?_
  refine lv_iadd hx hb d_AL_add2_18 ?_
  refine W.eq (congrArg (fun z => F0 m 19 ls (.int z :: [.ref x])) (by decide : ((49 : Int32) + 1) = 50)) ?_
  refine va_put (D := (dC, dI)) (ci := 14) (v := .int 50) (ty := .int) (C := R_AL) (T := T_AL) (N := 3) hx hb htb in_AL ty_AL ty_AL_ok nm_AL hown hK hP hD hS 0 rfl rfl 1 (by decide) (htb _ m_88) (fun _ h9 => h9) rfl (by decide +kernel) rfl rfl (Nat.le_of_ble_eq_true rfl) d_AL_add2_19 (fun H locs hP hD hS => ?_)
  have hP : va_P (dC, dI) vwCl ([(x, .inr (14, [.ref ra4, .int 50, .int mo])), (ra4, .inl (cO, 73, .inr (.inr (.inr (.inr (va_up (va_cpy f (fun _ => none) 0 0 49) 49 (some v)))))))] ++ fz) H := hP
  have hD : va_D A ([(x, .inr (14, [.ref ra4, .int 50, .int mo])), (ra4, .inl (cO, 73, .inr (.inr (.inr (.inr (va_up (va_cpy f (fun _ => none) 0 0 49) 49 (some v)))))))] ++ fz) := hD
  have hP9 := zz_pickP (pre := [(x, .inr (14, [.ref ra4, .int 50, .int mo])), (ra4, .inl (cO, 73, .inr (.inr (.inr (.inr (va_up (va_cpy f (fun _ => none) 0 0 49) 49 (some v)))))))]) (fz := fz) (wc := [(x, .inr (14, [.ref ra4, .int 50, .int mo])), (ra4, .inl (cO, 73, .inr (.inr (.inr (.inr (va_up (va_cpy f (fun _ => none) 0 0 49) 49 (some v)))))))]) hP [0, 1] rfl
  have hD9 := zz_pickD (pre := [(x, .inr (14, [.ref ra4, .int 50, .int mo])), (ra4, .inl (cO, 73, .inr (.inr (.inr (.inr (va_up (va_cpy f (fun _ => none) 0 0 49) 49 (some v)))))))]) (fz := fz) (wc := [(x, .inr (14, [.ref ra4, .int 50, .int mo])), (ra4, .inl (cO, 73, .inr (.inr (.inr (.inr (va_up (va_cpy f (fun _ => none) 0 0 49) 49 (some v)))))))]) hD [0, 1] (by decide) rfl
  have hK9 := hK.sub (tys' := [(cO, .object "java/lang/Object")]) [0] rfl
  refine W.widen (k := 1) (n := 73) (Nat.le_of_ble_eq_true rfl) (Nat.le_of_ble_eq_true rfl) ?_
  exact W.vret hx hb hr (fun t ht hW => ⟨⟨(), rfl, trivial, ⟨ra4, by rw [ht]; exact hP9, va_K.moved hW.alike hK9, hD9⟩⟩, hS.F ht⟩) hS.2.2 d_AL_add2_22
set_option maxHeartbeats 1000000 in
set_option maxRecDepth 100000 in
/-- add(v, table, 73): the table grows -/
theorem k_AL_add2_73 (l : Launch) (dC : Nat → ClassId) (dI : Nat → Nat → Nat) (sz : Nat) (x : Nat) (mo : Int32) (ed : Nat) (cO : ClassId) (f : Nat → Option Nat) (ci : Nat) (em : Nat) (aK : Nat → Nat) (aV : Nat → Nat) (v : Nat) (fz : va_W) (hci : Oci ci) (hel : ∀ i, i < 73 → ∀ y, f i = some y → Vin ci fz y) (hv : Vin ci fz v) : Met l y_AL_add2 ws_AL_add2 ({ frames := 5, cells := 1, slots := 109, locals := 127 }) (va_Pc [.ref x, .ref v, .ref ed, .int 73] (fun U => U.heap.size = sz ∧ va_P (dC, dI) vwCl ([(x, .inr (14, [.ref ed, .int 73, .int mo])), (ed, .inl (cO, 73, .inr (.inr (.inr (.inr f)))))] ++ fz) U.heap ∧ va_K (dC, dI) vwCl [(cO, .object "java/lang/Object")] U ∧ va_D (fun _ => True) ([(x, .inr (14, [.ref ed, .int 73, .int mo])), (ed, .inl (cO, 73, .inr (.inr (.inr (.inr f)))))] ++ fz) ∧ EX em aK aV (va_A ([(x, .inr (14, [.ref ed, .int 73, .int mo])), (ed, .inl (cO, 73, .inr (.inr (.inr (.inr f)))))] ++ fz) sz) U U.heap)) (va_Qv (fun (u : Unit) => True) (fun u t => ∃ (ew : Nat), va_P (dC, dI) vwCl ([(x, .inr (14, [.ref ew, .int 74, .int mo])), (ew, .inl (cO, 109, .inr (.inr (.inr (.inr (va_up (va_cpy f (fun _ => none) 0 0 73) 73 (some v)))))))] ++ fz) t.heap ∧ va_K (dC, dI) vwCl [(cO, .object "java/lang/Object")] t ∧ va_D (va_A ([(x, .inr (14, [.ref ed, .int 73, .int mo])), (ed, .inl (cO, 73, .inr (.inr (.inr (.inr f)))))] ++ fz) sz) ([(x, .inr (14, [.ref ew, .int 74, .int mo])), (ew, .inl (cO, 109, .inr (.inr (.inr (.inr (va_up (va_cpy f (fun _ => none) 0 0 73) 73 (some v)))))))] ++ fz)) (va_A ([(x, .inr (14, [.ref ed, .int 73, .int mo])), (ed, .inl (cO, 73, .inr (.inr (.inr (.inr f)))))] ++ fz) sz)) 1 109 (va_A ([(x, .inr (14, [.ref ed, .int 73, .int mo])), (ed, .inl (cO, 73, .inr (.inr (.inr (.inr f)))))] ++ fz) sz) := by
  refine Met.ofW (cc := c_AL_add2) (maxL := 4) (ret := none) (by decide) rfl ?_
  intro p e s m args below meth c s₁ B hml hv
  obtain ⟨rfl, hsz, hP, hK, hD0, hE⟩ := hv
  have hx := B.exec
  have hb := B.bytes
  have hr := B.returns
  have hts := atoms_spec (ws := ws_AL_add2) B.pre
  have htb := fun w (h : w ∈ TBL) => hts w (List.mem_cons_of_mem _ h)
  have hown : s.vm.findClass R_AL = some m.cls := findClass_of_methodNamed B.named
  have hlocks := B.notSynchronized
  subst hsz
  have hD := hD0.self (sz := s.heap.size)
  generalize hAe : va_A ([(x, .inr (14, [.ref ed, .int 73, .int mo])), (ed, .inl (cO, 73, .inr (.inr (.inr (.inr f)))))] ++ fz) s.heap.size = A at hD hE ⊢
  have hA : ∀ q : Nat, s.heap.size ≤ q → A q := fun q h => by rw [← hAe]; exact Or.inr h
  have hS : va_S A s.heap s.heap [] := va_S.rf
  have hP : va_P (dC, dI) vwCl ([(x, .inr (14, [.ref ed, .int 73, .int mo])), (ed, .inl (cO, 73, .inr (.inr (.inr (.inr f)))))] ++ fz) s.heap := hP
  have hl := lv_entry ([.ref x, .ref v, .ref ed, .int 73]) (n := 4) (Nat.le_of_ble_eq_true rfl)
  rw [lg_entry_eq]
  generalize (lg_sl ([.ref x, .ref v, .ref ed, .int 73]) ++ List.replicate (4 - (lg_sl ([.ref x, .ref v, .ref ed, .int 73])).length) Slot.unset).toArray = ls at hl ⊢
  have hl : lv_has ls 4 [(0, .ref x), (1, .ref v), (2, .ref ed), (3, .int 73)] := hl
  refine lv_iload_n hx hb d_AL_add2_0 rfl (lv_at hl 3 rfl) ?_
  refine lv_aload_n hx hb d_AL_add2_1 rfl (lv_at hl 2 rfl) ?_
  refine va_alen (v := 73) hx hb hK hP 1 0 rfl rfl rfl d_AL_add2_2 ?_
  refine lv_icmp_ne (tgt := 11) hx hb d_AL_add2_3 rfl (fun h9 => absurd (rfl) h9) (fun _ => ?_)
  refine lv_aload_n hx hb d_AL_add2_6 rfl (lv_at hl 0 rfl) ?_
  have hPc := zz_pickP (pre := [(x, .inr (14, [.ref ed, .int 73, .int mo])), (ed, .inl (cO, 73, .inr (.inr (.inr (.inr f)))))]) (fz := fz) (wc := [(x, .inr (14, [.ref ed, .int 73, .int mo])), (ed, .inl (cO, 73, .inr (.inr (.inr (.inr f)))))]) hP [0, 1] rfl
  have hDc := zz_pickD (pre := [(x, .inr (14, [.ref ed, .int 73, .int mo])), (ed, .inl (cO, 73, .inr (.inr (.inr (.inr f)))))]) (fz := fz) (wc := [(x, .inr (14, [.ref ed, .int 73, .int mo])), (ed, .inl (cO, 73, .inr (.inr (.inr (.inr f)))))]) hD [0, 1] (by decide) rfl
  have hFc := zz_free (pre := [(x, .inr (14, [.ref ed, .int 73, .int mo])), (ed, .inl (cO, 73, .inr (.inr (.inr (.inr f)))))]) (fz := fz) (wc := [(x, .inr (14, [.ref ed, .int 73, .int mo])), (ed, .inl (cO, 73, .inr (.inr (.inr (.inr f)))))]) hD hS hA [0, 1] rfl
  have hKc := hK.sub (tys' := [(cO, .object "java/lang/Object")]) [0] rfl
  refine va_callr (va_runV (As := []) (rest := []) ⟨hx, hb, hml, hown, htb⟩ (k_AL_grow_73 l dC dI _ x mo ed cO f ci em aK aV fz hci hel) (cwV 0 htb (g_V (fun _ h => h) m_533 m_530 m_532 m_1631 m_8) rfl rfl rfl (by decide +kernel) ⟨Nat.le_of_ble_eq_true rfl, Nat.le_of_ble_eq_true rfl⟩) ⟨fun a U g mk q => by obtain ⟨q0, q1, qP, qK, qD, z0⟩ := q; exact ⟨q0, q1, qP, va_K.moved (u := U) (U := U.calling g mk a) (Vm.Alike.refl U.vm) qK, qD, EX.same (U := U) (U' := U.calling g mk a) rfl z0⟩, va_recv hK hP (ci := 14) rfl (q0 := 0) rfl, fun U hU hW => ⟨rfl, by rw [hU], by rw [hU]; exact hPc, va_K.moved hW.alike hKc, hDc.weaken (fun _ _ _ _ => trivial), by rw [hU]; exact EX.warm hW ((hE.kept (fun a h1 h2 => hS.2.1 a h1 h2)).narrow hFc)⟩⟩ rfl rfl hl.1 rfl (lv_room (Nat.le_of_ble_eq_true rfl)) d_AL_add2_7 ⟨Nat.le_of_ble_eq_true rfl, Nat.le_of_ble_eq_true rfl⟩) hS (fun q _ h => hFc q h) hFc (fun u1 ra4 t H1 locs ht hvm hw3 hB hz1 hk1 hS => ?_)
  obtain ⟨hP1, hK1, hD1⟩ := hB
  rw [ht] at hP1
  have hK1 := va_K.moved hvm.symm hK1
  have hw3 : True := hw3
  obtain ⟨hP, hD⟩ := zz_join (pre := [(x, .inr (14, [.ref ed, .int 73, .int mo])), (ed, .inl (cO, 73, .inr (.inr (.inr (.inr f)))))]) (fz := fz) (wc := [(x, .inr (14, [.ref ed, .int 73, .int mo])), (ed, .inl (cO, 73, .inr (.inr (.inr (.inr f)))))]) (wr := []) (w1 := ([(x, .inr (14, [.ref ra4, .int 73, .int mo])), (ra4, .inl (cO, 109, .inr (.inr (.inr (.inr (va_cpy f (fun _ => none) 0 0 73))))))] ++ fz)) hP hD [0, 1] [] rfl rfl (by decide) (by decide) hk1 hFc hP1 hD1
  have hK := (hK.sub (tys' := []) [] rfl).app hK1
  generalize H1 = H at hP hS ⊢
  have hP : va_P (dC, dI) vwCl ([(x, .inr (14, [.ref ra4, .int 73, .int mo])), (ra4, .inl (cO, 109, .inr (.inr (.inr (.inr (va_cpy f (fun _ => none) 0 0 73))))))] ++ fz) H := hP
  have hD : va_D A ([(x, .inr (14, [.ref ra4, .int 73, .int mo])), (ra4, .inl (cO, 109, .inr (.inr (.inr (.inr (va_cpy f (fun _ => none) 0 0 73))))))] ++ fz) := hD
  have hK : va_K (dC, dI) vwCl [(cO, .object "java/lang/Object")] s := hK
  refine W.widen (k := 1) (n := 109) (Nat.le_of_ble_eq_true rfl) (Nat.le_of_ble_eq_true rfl) ?_
  refine lv_astore_n hx hb d_AL_add2_10 rfl hl (by decide) rfl (fun ls hl => ?_)
  have hl : lv_has ls 4 [(2, .ref ra4), (0, .ref x), (1, .ref v), (3, .int 73)] := hl
  refine lv_aload_n hx hb d_AL_add2_11 rfl (lv_at hl 0 rfl) ?_
  refine lv_iload_n hx hb d_AL_add2_12 rfl (lv_at hl 3 rfl) ?_
  refine lv_aload_n hx hb d_AL_add2_13 rfl (lv_at hl 2 rfl) ?_
  refine va_astqM hx hb hK hP hD hS 1 0 rfl rfl (zz_any hE hci hK hP (hv.app _)) (vp_in_iff.mpr (by decide)) d_AL_add2_14 (fun H locs hP hD hS => ?_)
  have hP : va_P (dC, dI) vwCl ([(x, .inr (14, [.ref ra4, .int 73, .int mo])), (ra4, .inl (cO, 109, .inr (.inr (.inr (.inr (va_up (va_cpy f (fun _ => none) 0 0 73) 73 (some v)))))))] ++ fz) H := hP
  have hD : va_D A ([(x, .inr (14, [.ref ra4, .int 73, .int mo])), (ra4, .inl (cO, 109, .inr (.inr (.inr (.inr (va_up (va_cpy f (fun _ => none) 0 0 73) 73 (some v)))))))] ++ fz) := hD
  refine lv_aload_n hx hb d_AL_add2_15 rfl (lv_at hl 1 rfl) ?_
  refine lv_iload_n hx hb d_AL_add2_16 rfl (lv_at hl 3 rfl) ?_
  refine lv_iconst (v := 1) hx hb d_AL_add2_17 (by decide) ?_
  refine lv_iadd hx hb d_AL_add2_18 ?_
  refine W.eq (congrArg (fun z => F0 m 19 ls (.int z :: [.ref x])) (by decide : ((73 : Int32) + 1) = 74)) ?_
  refine va_put (D := (dC, dI)) (ci := 14) (v := .int 74) (ty := .int) (C := R_AL) (T := T_AL) (N := 3) hx hb htb in_AL ty_AL ty_AL_ok nm_AL hown hK hP hD hS 0 rfl rfl 1 (by decide) (htb _ m_88) (fun _ h9 => h9) rfl (by decide +kernel) rfl rfl (Nat.le_of_ble_eq_true rfl) d_AL_add2_19 (fun H locs hP hD hS => ?_)
  have hP : va_P (dC, dI) vwCl ([(x, .inr (14, [.ref ra4, .int 74, .int mo])), (ra4, .inl (cO, 109, .inr (.inr (.inr (.inr (va_up (va_cpy f (fun _ => none) 0 0 73) 73 (some v)))))))] ++ fz) H := hP
  have hD : va_D A ([(x, .inr (14, [.ref ra4, .int 74, .int mo])), (ra4, .inl (cO, 109, .inr (.inr (.inr (.inr (va_up (va_cpy f (fun _ => none) 0 0 73) 73 (some v)))))))] ++ fz) := hD
  have hP9 := zz_pickP (pre := [(x, .inr (14, [.ref ra4, .int 74, .int mo])), (ra4, .inl (cO, 109, .inr (.inr (.inr (.inr (va_up (va_cpy f (fun _ => none) 0 0 73) 73 (some v)))))))]) (fz := fz) (wc := [(x, .inr (14, [.ref ra4, .int 74, .int mo])), (ra4, .inl (cO, 109, .inr (.inr (.inr (.inr (va_up (va_cpy f (fun _ => none) 0 0 73) 73 (some v)))))))]) hP [0, 1] rfl
  have hD9 := zz_pickD (pre := [(x, .inr (14, [.ref ra4, .int 74, .int mo])), (ra4, .inl (cO, 109, .inr (.inr (.inr (.inr (va_up (va_cpy f (fun _ => none) 0 0 73) 73 (some v)))))))]) (fz := fz) (wc := [(x, .inr (14, [.ref ra4, .int 74, .int mo])), (ra4, .inl (cO, 109, .inr (.inr (.inr (.inr (va_up (va_cpy f (fun _ => none) 0 0 73) 73 (some v)))))))]) hD [0, 1] (by decide) rfl
  have hK9 := hK.sub (tys' := [(cO, .object "java/lang/Object")]) [0] rfl
  refine W.widen (k := 1) (n := 109) (Nat.le_of_ble_eq_true rfl) (Nat.le_of_ble_eq_true rfl) ?_
  exact W.vret hx hb hr (fun t ht hW => ⟨⟨(), rfl, trivial, ⟨ra4, by rw [ht]; exact hP9, va_K.moved hW.alike hK9, hD9⟩⟩, hS.F ht⟩) hS.2.2 d_AL_add2_22
set_option maxHeartbeats 1000000 in
set_option maxRecDepth 100000 in
/-- add(v, table, 109): the table grows -/
theorem k_AL_add2_109 (l : Launch) (dC : Nat → ClassId) (dI : Nat → Nat → Nat) (sz : Nat) (x : Nat) (mo : Int32) (ed : Nat) (cO : ClassId) (f : Nat → Option Nat) (ci : Nat) (em : Nat) (aK : Nat → Nat) (aV : Nat → Nat) (v : Nat) (fz : va_W) (hci : Oci ci) (hel : ∀ i, i < 109 → ∀ y, f i = some y → Vin ci fz y) (hv : Vin ci fz v) : Met l y_AL_add2 ws_AL_add2 ({ frames := 5, cells := 1, slots := 163, locals := 127 }) (va_Pc [.ref x, .ref v, .ref ed, .int 109] (fun U => U.heap.size = sz ∧ va_P (dC, dI) vwCl ([(x, .inr (14, [.ref ed, .int 109, .int mo])), (ed, .inl (cO, 109, .inr (.inr (.inr (.inr f)))))] ++ fz) U.heap ∧ va_K (dC, dI) vwCl [(cO, .object "java/lang/Object")] U ∧ va_D (fun _ => True) ([(x, .inr (14, [.ref ed, .int 109, .int mo])), (ed, .inl (cO, 109, .inr (.inr (.inr (.inr f)))))] ++ fz) ∧ EX em aK aV (va_A ([(x, .inr (14, [.ref ed, .int 109, .int mo])), (ed, .inl (cO, 109, .inr (.inr (.inr (.inr f)))))] ++ fz) sz) U U.heap)) (va_Qv (fun (u : Unit) => True) (fun u t => ∃ (ew : Nat), va_P (dC, dI) vwCl ([(x, .inr (14, [.ref ew, .int 110, .int mo])), (ew, .inl (cO, 163, .inr (.inr (.inr (.inr (va_up (va_cpy f (fun _ => none) 0 0 109) 109 (some v)))))))] ++ fz) t.heap ∧ va_K (dC, dI) vwCl [(cO, .object "java/lang/Object")] t ∧ va_D (va_A ([(x, .inr (14, [.ref ed, .int 109, .int mo])), (ed, .inl (cO, 109, .inr (.inr (.inr (.inr f)))))] ++ fz) sz) ([(x, .inr (14, [.ref ew, .int 110, .int mo])), (ew, .inl (cO, 163, .inr (.inr (.inr (.inr (va_up (va_cpy f (fun _ => none) 0 0 109) 109 (some v)))))))] ++ fz)) (va_A ([(x, .inr (14, [.ref ed, .int 109, .int mo])), (ed, .inl (cO, 109, .inr (.inr (.inr (.inr f)))))] ++ fz) sz)) 1 163 (va_A ([(x, .inr (14, [.ref ed, .int 109, .int mo])), (ed, .inl (cO, 109, .inr (.inr (.inr (.inr f)))))] ++ fz) sz) := by
  refine Met.ofW (cc := c_AL_add2) (maxL := 4) (ret := none) (by decide) rfl ?_
  intro p e s m args below meth c s₁ B hml hv
  obtain ⟨rfl, hsz, hP, hK, hD0, hE⟩ := hv
  have hx := B.exec
  have hb := B.bytes
  have hr := B.returns
  have hts := atoms_spec (ws := ws_AL_add2) B.pre
  have htb := fun w (h : w ∈ TBL) => hts w (List.mem_cons_of_mem _ h)
  have hown : s.vm.findClass R_AL = some m.cls := findClass_of_methodNamed B.named
  have hlocks := B.notSynchronized
  subst hsz
  have hD := hD0.self (sz := s.heap.size)
  generalize hAe : va_A ([(x, .inr (14, [.ref ed, .int 109, .int mo])), (ed, .inl (cO, 109, .inr (.inr (.inr (.inr f)))))] ++ fz) s.heap.size = A at hD hE ⊢
  have hA : ∀ q : Nat, s.heap.size ≤ q → A q := fun q h => by rw [← hAe]; exact Or.inr h
  have hS : va_S A s.heap s.heap [] := va_S.rf
  have hP : va_P (dC, dI) vwCl ([(x, .inr (14, [.ref ed, .int 109, .int mo])), (ed, .inl (cO, 109, .inr (.inr (.inr (.inr f)))))] ++ fz) s.heap := hP
  have hl := lv_entry ([.ref x, .ref v, .ref ed, .int 109]) (n := 4) (Nat.le_of_ble_eq_true rfl)
  rw [lg_entry_eq]
  generalize (lg_sl ([.ref x, .ref v, .ref ed, .int 109]) ++ List.replicate (4 - (lg_sl ([.ref x, .ref v, .ref ed, .int 109])).length) Slot.unset).toArray = ls at hl ⊢
  have hl : lv_has ls 4 [(0, .ref x), (1, .ref v), (2, .ref ed), (3, .int 109)] := hl
  refine lv_iload_n hx hb d_AL_add2_0 rfl (lv_at hl 3 rfl) ?_
  refine lv_aload_n hx hb d_AL_add2_1 rfl (lv_at hl 2 rfl) ?_
  refine va_alen (v := 109) hx hb hK hP 1 0 rfl rfl rfl d_AL_add2_2 ?_
  refine lv_icmp_ne (tgt := 11) hx hb d_AL_add2_3 rfl (fun h9 => absurd (rfl) h9) (fun _ => ?_)
  refine lv_aload_n hx hb d_AL_add2_6 rfl (lv_at hl 0 rfl) ?_
  have hPc := zz_pickP (pre := [(x, .inr (14, [.ref ed, .int 109, .int mo])), (ed, .inl (cO, 109, .inr (.inr (.inr (.inr f)))))]) (fz := fz) (wc := [(x, .inr (14, [.ref ed, .int 109, .int mo])), (ed, .inl (cO, 109, .inr (.inr (.inr (.inr f)))))]) hP [0, 1] rfl
  have hDc := zz_pickD (pre := [(x, .inr (14, [.ref ed, .int 109, .int mo])), (ed, .inl (cO, 109, .inr (.inr (.inr (.inr f)))))]) (fz := fz) (wc := [(x, .inr (14, [.ref ed, .int 109, .int mo])), (ed, .inl (cO, 109, .inr (.inr (.inr (.inr f)))))]) hD [0, 1] (by decide) rfl
  have hFc := zz_free (pre := [(x, .inr (14, [.ref ed, .int 109, .int mo])), (ed, .inl (cO, 109, .inr (.inr (.inr (.inr f)))))]) (fz := fz) (wc := [(x, .inr (14, [.ref ed, .int 109, .int mo])), (ed, .inl (cO, 109, .inr (.inr (.inr (.inr f)))))]) hD hS hA [0, 1] rfl
  have hKc := hK.sub (tys' := [(cO, .object "java/lang/Object")]) [0] rfl
  refine va_callr (va_runV (As := []) (rest := []) ⟨hx, hb, hml, hown, htb⟩ (k_AL_grow_109 l dC dI _ x mo ed cO f ci em aK aV fz hci hel) (cwV 0 htb (g_V (fun _ h => h) m_533 m_530 m_532 m_1631 m_8) rfl rfl rfl (by decide +kernel) ⟨Nat.le_of_ble_eq_true rfl, Nat.le_of_ble_eq_true rfl⟩) ⟨fun a U g mk q => by obtain ⟨q0, q1, qP, qK, qD, z0⟩ := q; exact ⟨q0, q1, qP, va_K.moved (u := U) (U := U.calling g mk a) (Vm.Alike.refl U.vm) qK, qD, EX.same (U := U) (U' := U.calling g mk a) rfl z0⟩, va_recv hK hP (ci := 14) rfl (q0 := 0) rfl, fun U hU hW => ⟨rfl, by rw [hU], by rw [hU]; exact hPc, va_K.moved hW.alike hKc, hDc.weaken (fun _ _ _ _ => trivial), by rw [hU]; exact EX.warm hW ((hE.kept (fun a h1 h2 => hS.2.1 a h1 h2)).narrow hFc)⟩⟩ rfl rfl hl.1 rfl (lv_room (Nat.le_of_ble_eq_true rfl)) d_AL_add2_7 ⟨Nat.le_of_ble_eq_true rfl, Nat.le_of_ble_eq_true rfl⟩) hS (fun q _ h => hFc q h) hFc (fun u1 ra4 t H1 locs ht hvm hw3 hB hz1 hk1 hS => ?_)
  obtain ⟨hP1, hK1, hD1⟩ := hB
  rw [ht] at hP1
  have hK1 := va_K.moved hvm.symm hK1
  have hw3 : True := hw3
  obtain ⟨hP, hD⟩ := zz_join (pre := [(x, .inr (14, [.ref ed, .int 109, .int mo])), (ed, .inl (cO, 109, .inr (.inr (.inr (.inr f)))))]) (fz := fz) (wc := [(x, .inr (14, [.ref ed, .int 109, .int mo])), (ed, .inl (cO, 109, .inr (.inr (.inr (.inr f)))))]) (wr := []) (w1 := ([(x, .inr (14, [.ref ra4, .int 109, .int mo])), (ra4, .inl (cO, 163, .inr (.inr (.inr (.inr (va_cpy f (fun _ => none) 0 0 109))))))] ++ fz)) hP hD [0, 1] [] rfl rfl (by decide) (by decide) hk1 hFc hP1 hD1
  have hK := (hK.sub (tys' := []) [] rfl).app hK1
  generalize H1 = H at hP hS ⊢
  have hP : va_P (dC, dI) vwCl ([(x, .inr (14, [.ref ra4, .int 109, .int mo])), (ra4, .inl (cO, 163, .inr (.inr (.inr (.inr (va_cpy f (fun _ => none) 0 0 109))))))] ++ fz) H := hP
  have hD : va_D A ([(x, .inr (14, [.ref ra4, .int 109, .int mo])), (ra4, .inl (cO, 163, .inr (.inr (.inr (.inr (va_cpy f (fun _ => none) 0 0 109))))))] ++ fz) := hD
  have hK : va_K (dC, dI) vwCl [(cO, .object "java/lang/Object")] s := hK
  refine W.widen (k := 1) (n := 163) (Nat.le_of_ble_eq_true rfl) (Nat.le_of_ble_eq_true rfl) ?_
  refine lv_astore_n hx hb d_AL_add2_10 rfl hl (by decide) rfl (fun ls hl => ?_)
  have hl : lv_has ls 4 [(2, .ref ra4), (0, .ref x), (1, .ref v), (3, .int 109)] := hl
  refine lv_aload_n hx hb d_AL_add2_11 rfl (lv_at hl 0 rfl) ?_
  refine lv_iload_n hx hb d_AL_add2_12 rfl (lv_at hl 3 rfl) ?_
  refine lv_aload_n hx hb d_AL_add2_13 rfl (lv_at hl 2 rfl) ?_
  refine va_astqM hx hb hK hP hD hS 1 0 rfl rfl (zz_any hE hci hK hP (hv.app _)) (vp_in_iff.mpr (by decide)) d_AL_add2_14 (fun H locs hP hD hS => ?_)
  have hP : va_P (dC, dI) vwCl ([(x, .inr (14, [.ref ra4, .int 109, .int mo])), (ra4, .inl (cO, 163, .inr (.inr (.inr (.inr (va_up (va_cpy f (fun _ => none) 0 0 109) 109 (some v)))))))] ++ fz) H := hP
  have hD : va_D A ([(x, .inr (14, [.ref ra4, .int 109, .int mo])), (ra4, .inl (cO, 163, .inr (.inr (.inr (.inr (va_up (va_cpy f (fun _ => none) 0 0 109) 109 (some v)))))))] ++ fz) := hD
  refine lv_aload_n hx hb d_AL_add2_15 rfl (lv_at hl 1 rfl) ?_
  refine lv_iload_n hx hb d_AL_add2_16 rfl (lv_at hl 3 rfl) ?_
  refine lv_iconst (v := 1) hx hb d_AL_add2_17 (by decide) ?_
  refine lv_iadd hx hb d_AL_add2_18 ?_
  refine W.eq (congrArg (fun z => F0 m 19 ls (.int z :: [.ref x])) (by decide : ((109 : Int32) + 1) = 110)) ?_
  refine va_put (D := (dC, dI)) (ci := 14) (v := .int 110) (ty := .int) (C := R_AL) (T := T_AL) (N := 3) hx hb htb in_AL ty_AL ty_AL_ok nm_AL hown hK hP hD hS 0 rfl rfl 1 (by decide) (htb _ m_88) (fun _ h9 => h9) rfl (by decide +kernel) rfl rfl (Nat.le_of_ble_eq_true rfl) d_AL_add2_19 (fun H locs hP hD hS => ?_)
  have hP : va_P (dC, dI) vwCl ([(x, .inr (14, [.ref ra4, .int 110, .int mo])), (ra4, .inl (cO, 163, .inr (.inr (.inr (.inr (va_up (va_cpy f (fun _ => none) 0 0 109) 109 (some v)))))))] ++ fz) H := hP
  have hD : va_D A ([(x, .inr (14, [.ref ra4, .int 110, .int mo])), (ra4, .inl (cO, 163, .inr (.inr (.inr (.inr (va_up (va_cpy f (fun _ => none) 0 0 109) 109 (some v)))))))] ++ fz) := hD
  have hP9 := zz_pickP (pre := [(x, .inr (14, [.ref ra4, .int 110, .int mo])), (ra4, .inl (cO, 163, .inr (.inr (.inr (.inr (va_up (va_cpy f (fun _ => none) 0 0 109) 109 (some v)))))))]) (fz := fz) (wc := [(x, .inr (14, [.ref ra4, .int 110, .int mo])), (ra4, .inl (cO, 163, .inr (.inr (.inr (.inr (va_up (va_cpy f (fun _ => none) 0 0 109) 109 (some v)))))))]) hP [0, 1] rfl
  have hD9 := zz_pickD (pre := [(x, .inr (14, [.ref ra4, .int 110, .int mo])), (ra4, .inl (cO, 163, .inr (.inr (.inr (.inr (va_up (va_cpy f (fun _ => none) 0 0 109) 109 (some v)))))))]) (fz := fz) (wc := [(x, .inr (14, [.ref ra4, .int 110, .int mo])), (ra4, .inl (cO, 163, .inr (.inr (.inr (.inr (va_up (va_cpy f (fun _ => none) 0 0 109) 109 (some v)))))))]) hD [0, 1] (by decide) rfl
  have hK9 := hK.sub (tys' := [(cO, .object "java/lang/Object")]) [0] rfl
  refine W.widen (k := 1) (n := 163) (Nat.le_of_ble_eq_true rfl) (Nat.le_of_ble_eq_true rfl) ?_
  exact W.vret hx hb hr (fun t ht hW => ⟨⟨(), rfl, trivial, ⟨ra4, by rw [ht]; exact hP9, va_K.moved hW.alike hK9, hD9⟩⟩, hS.F ht⟩) hS.2.2 d_AL_add2_22
set_option maxHeartbeats 1000000 in
set_option maxRecDepth 100000 in
/-- add(v, table, 0) of the empty list -/
theorem k_AL_add2_0 (l : Launch) (dC : Nat → ClassId) (dI : Nat → Nat → Nat) (sz : Nat) (x : Nat) (mo : Int32) (cO : ClassId) (ci : Nat) (v : Nat) (em : Nat) (aK : Nat → Nat) (aV : Nat → Nat) (fz : va_W) (hci : Oci ci) (hv : Vin ci fz v) : Met l y_AL_add2 ws_AL_add2 ({ frames := 3, cells := 1, slots := 10, locals := 57 }) (va_Pc [.ref x, .ref v, .ref em, .int 0] (fun U => U.heap.size = sz ∧ va_P (dC, dI) vwCl ([(x, .inr (14, [.ref em, .int 0, .int mo]))] ++ fz) U.heap ∧ va_K (dC, dI) vwCl [(cO, .object "java/lang/Object")] U ∧ va_D (fun _ => True) ([(x, .inr (14, [.ref em, .int 0, .int mo]))] ++ fz) ∧ EX em aK aV (va_A ([(x, .inr (14, [.ref em, .int 0, .int mo]))] ++ fz) sz) U U.heap)) (va_Qv (fun (u : Unit) => True) (fun u t => ∃ (ew : Nat), va_P (dC, dI) vwCl ([(x, .inr (14, [.ref ew, .int 1, .int mo])), (ew, .inl (cO, 10, .inr (.inr (.inr (.inr (va_up (fun _ => none) 0 (some v)))))))] ++ fz) t.heap ∧ va_K (dC, dI) vwCl [(cO, .object "java/lang/Object")] t ∧ va_D (va_A ([(x, .inr (14, [.ref em, .int 0, .int mo]))] ++ fz) sz) ([(x, .inr (14, [.ref ew, .int 1, .int mo])), (ew, .inl (cO, 10, .inr (.inr (.inr (.inr (va_up (fun _ => none) 0 (some v)))))))] ++ fz)) (va_A ([(x, .inr (14, [.ref em, .int 0, .int mo]))] ++ fz) sz)) 1 10 (va_A ([(x, .inr (14, [.ref em, .int 0, .int mo]))] ++ fz) sz) := by
  refine Met.ofW (cc := c_AL_add2) (maxL := 4) (ret := none) (by decide) rfl ?_
  intro p e s m args below meth c s₁ B hml hv
  obtain ⟨rfl, hsz, hP, hK, hD0, hE⟩ := hv
  have hx := B.exec
  have hb := B.bytes
  have hr := B.returns
  have hts := atoms_spec (ws := ws_AL_add2) B.pre
  have htb := fun w (h : w ∈ TBL) => hts w (List.mem_cons_of_mem _ h)
  have hown : s.vm.findClass R_AL = some m.cls := findClass_of_methodNamed B.named
  have hlocks := B.notSynchronized
  subst hsz
  have hD := hD0.self (sz := s.heap.size)
  generalize hAe : va_A ([(x, .inr (14, [.ref em, .int 0, .int mo]))] ++ fz) s.heap.size = A at hD hE ⊢
  have hA : ∀ q : Nat, s.heap.size ≤ q → A q := fun q h => by rw [← hAe]; exact Or.inr h
  have hS : va_S A s.heap s.heap [] := va_S.rf
  have hP : va_P (dC, dI) vwCl ([(x, .inr (14, [.ref em, .int 0, .int mo]))] ++ fz) s.heap := hP
  have hl := lv_entry ([.ref x, .ref v, .ref em, .int 0]) (n := 4) (Nat.le_of_ble_eq_true rfl)
  rw [lg_entry_eq]
  generalize (lg_sl ([.ref x, .ref v, .ref em, .int 0]) ++ List.replicate (4 - (lg_sl ([.ref x, .ref v, .ref em, .int 0])).length) Slot.unset).toArray = ls at hl ⊢
  have hl : lv_has ls 4 [(0, .ref x), (1, .ref v), (2, .ref em), (3, .int 0)] := hl
  refine lv_iload_n hx hb d_AL_add2_0 rfl (lv_at hl 3 rfl) ?_
  refine lv_aload_n hx hb d_AL_add2_1 rfl (lv_at hl 2 rfl) ?_
  refine va_tlen (v := 0) hx hb hE.em0 hS rfl d_AL_add2_2 ?_
  refine lv_icmp_ne (tgt := 11) hx hb d_AL_add2_3 rfl (fun h9 => absurd (rfl) h9) (fun _ => ?_)
  refine lv_aload_n hx hb d_AL_add2_6 rfl (lv_at hl 0 rfl) ?_
  have hPc := zz_pickP (pre := [(x, .inr (14, [.ref em, .int 0, .int mo]))]) (fz := fz) (wc := [(x, .inr (14, [.ref em, .int 0, .int mo]))]) hP [0] rfl
  have hDc := zz_pickD (pre := [(x, .inr (14, [.ref em, .int 0, .int mo]))]) (fz := fz) (wc := [(x, .inr (14, [.ref em, .int 0, .int mo]))]) hD [0] (by decide) rfl
  have hFc := zz_free (pre := [(x, .inr (14, [.ref em, .int 0, .int mo]))]) (fz := fz) (wc := [(x, .inr (14, [.ref em, .int 0, .int mo]))]) hD hS hA [0] rfl
  have hKc := hK.sub (tys' := [(cO, .object "java/lang/Object")]) [0] rfl
  refine va_callr (va_runV (As := []) (rest := []) ⟨hx, hb, hml, hown, htb⟩ (k_AL_grow_0 l dC dI _ x mo cO em aK aV fz ) (cwV 0 htb (g_V (fun _ h => h) m_533 m_530 m_532 m_1631 m_8) rfl rfl rfl (by decide +kernel) ⟨Nat.le_of_ble_eq_true rfl, Nat.le_of_ble_eq_true rfl⟩) ⟨fun a U g mk q => by obtain ⟨q0, q1, qP, qK, qD, z0⟩ := q; exact ⟨q0, q1, qP, va_K.moved (u := U) (U := U.calling g mk a) (Vm.Alike.refl U.vm) qK, qD, EX.same (U := U) (U' := U.calling g mk a) rfl z0⟩, va_recv hK hP (ci := 14) rfl (q0 := 0) rfl, fun U hU hW => ⟨rfl, by rw [hU], by rw [hU]; exact hPc, va_K.moved hW.alike hKc, hDc.weaken (fun _ _ _ _ => trivial), by rw [hU]; exact EX.warm hW ((hE.kept (fun a h1 h2 => hS.2.1 a h1 h2)).narrow hFc)⟩⟩ rfl rfl hl.1 rfl (lv_room (Nat.le_of_ble_eq_true rfl)) d_AL_add2_7 ⟨Nat.le_of_ble_eq_true rfl, Nat.le_of_ble_eq_true rfl⟩) hS (fun q _ h => hFc q h) hFc (fun u1 ra4 t H1 locs ht hvm hw3 hB hz1 hk1 hS => ?_)
  obtain ⟨hP1, hK1, hD1⟩ := hB
  rw [ht] at hP1
  have hK1 := va_K.moved hvm.symm hK1
  have hw3 : True := hw3
  obtain ⟨hP, hD⟩ := zz_join (pre := [(x, .inr (14, [.ref em, .int 0, .int mo]))]) (fz := fz) (wc := [(x, .inr (14, [.ref em, .int 0, .int mo]))]) (wr := []) (w1 := ([(x, .inr (14, [.ref ra4, .int 0, .int mo])), (ra4, .inl (cO, 10, .inr (.inr (.inr (.inr (fun _ => none))))))] ++ fz)) hP hD [0] [] rfl rfl (by decide) (by decide) hk1 hFc hP1 hD1
  have hK := (hK.sub (tys' := []) [] rfl).app hK1
  generalize H1 = H at hP hS ⊢
  have hP : va_P (dC, dI) vwCl ([(x, .inr (14, [.ref ra4, .int 0, .int mo])), (ra4, .inl (cO, 10, .inr (.inr (.inr (.inr (fun _ => none))))))] ++ fz) H := hP
  have hD : va_D A ([(x, .inr (14, [.ref ra4, .int 0, .int mo])), (ra4, .inl (cO, 10, .inr (.inr (.inr (.inr (fun _ => none))))))] ++ fz) := hD
  have hK : va_K (dC, dI) vwCl [(cO, .object "java/lang/Object")] s := hK
  refine W.widen (k := 1) (n := 10) (Nat.le_of_ble_eq_true rfl) (Nat.le_of_ble_eq_true rfl) ?_
  refine lv_astore_n hx hb d_AL_add2_10 rfl hl (by decide) rfl (fun ls hl => ?_)
  have hl : lv_has ls 4 [(2, .ref ra4), (0, .ref x), (1, .ref v), (3, .int 0)] := hl
  refine lv_aload_n hx hb d_AL_add2_11 rfl (lv_at hl 0 rfl) ?_
  refine lv_iload_n hx hb d_AL_add2_12 rfl (lv_at hl 3 rfl) ?_
  refine lv_aload_n hx hb d_AL_add2_13 rfl (lv_at hl 2 rfl) ?_
  refine va_astqM hx hb hK hP hD hS 1 0 rfl rfl (zz_any hE hci hK hP (hv.app _)) (vp_in_iff.mpr (by decide)) d_AL_add2_14 (fun H locs hP hD hS => ?_)
  have hP : va_P (dC, dI) vwCl ([(x, .inr (14, [.ref ra4, .int 0, .int mo])), (ra4, .inl (cO, 10, .inr (.inr (.inr (.inr (va_up (fun _ => none) 0 (some v)))))))] ++ fz) H := hP
  have hD : va_D A ([(x, .inr (14, [.ref ra4, .int 0, .int mo])), (ra4, .inl (cO, 10, .inr (.inr (.inr (.inr (va_up (fun _ => none) 0 (some v)))))))] ++ fz) := hD
  refine lv_aload_n hx hb d_AL_add2_15 rfl (lv_at hl 1 rfl) ?_
  refine lv_iload_n hx hb d_AL_add2_16 rfl (lv_at hl 3 rfl) ?_
  refine lv_iconst (v := 1) hx hb d_AL_add2_17 (by decide) ?_
  refine lv_iadd hx hb d_AL_add2_18 ?_
  refine W.eq (congrArg (fun z => F0 m 19 ls (.int z :: [.ref x])) (by decide : ((0 : Int32) + 1) = 1)) ?_
  refine va_put (D := (dC, dI)) (ci := 14) (v := .int 1) (ty := .int) (C := R_AL) (T := T_AL) (N := 3) hx hb htb in_AL ty_AL ty_AL_ok nm_AL hown hK hP hD hS 0 rfl rfl 1 (by decide) (htb _ m_88) (fun _ h9 => h9) rfl (by decide +kernel) rfl rfl (Nat.le_of_ble_eq_true rfl) d_AL_add2_19 (fun H locs hP hD hS => ?_)
  have hP : va_P (dC, dI) vwCl ([(x, .inr (14, [.ref ra4, .int 1, .int mo])), (ra4, .inl (cO, 10, .inr (.inr (.inr (.inr (va_up (fun _ => none) 0 (some v)))))))] ++ fz) H := hP
  have hD : va_D A ([(x, .inr (14, [.ref ra4, .int 1, .int mo])), (ra4, .inl (cO, 10, .inr (.inr (.inr (.inr (va_up (fun _ => none) 0 (some v)))))))] ++ fz) := hD
  have hP9 := zz_pickP (pre := [(x, .inr (14, [.ref ra4, .int 1, .int mo])), (ra4, .inl (cO, 10, .inr (.inr (.inr (.inr (va_up (fun _ => none) 0 (some v)))))))]) (fz := fz) (wc := [(x, .inr (14, [.ref ra4, .int 1, .int mo])), (ra4, .inl (cO, 10, .inr (.inr (.inr (.inr (va_up (fun _ => none) 0 (some v)))))))]) hP [0, 1] rfl
  have hD9 := zz_pickD (pre := [(x, .inr (14, [.ref ra4, .int 1, .int mo])), (ra4, .inl (cO, 10, .inr (.inr (.inr (.inr (va_up (fun _ => none) 0 (some v)))))))]) (fz := fz) (wc := [(x, .inr (14, [.ref ra4, .int 1, .int mo])), (ra4, .inl (cO, 10, .inr (.inr (.inr (.inr (va_up (fun _ => none) 0 (some v)))))))]) hD [0, 1] (by decide) rfl
  have hK9 := hK.sub (tys' := [(cO, .object "java/lang/Object")]) [0] rfl
  refine W.widen (k := 1) (n := 10) (Nat.le_of_ble_eq_true rfl) (Nat.le_of_ble_eq_true rfl) ?_
  exact W.vret hx hb hr (fun t ht hW => ⟨⟨(), rfl, trivial, ⟨ra4, by rw [ht]; exact hP9, va_K.moved hW.alike hK9, hD9⟩⟩, hS.F ht⟩) hS.2.2 d_AL_add2_22
