set_option maxHeartbeats 1000000 in
set_option maxRecDepth 100000 in
/-- Value(kind, text, number) -/
theorem k_VA_init (l : Launch) (dC : Nat → ClassId) (dI : Nat → Nat → Nat) (sz : Nat) (x : Nat) (kd : Int32) (tx : Nat) (nu : Int64) (em : Nat) (aK : Nat → Nat) (aV : Nat → Nat) : Met l y_VA_init ws_VA_init ({ frames := 4, cells := 1, slots := 3, locals := 72 }) (va_Pc [.ref x, .int kd, .ref tx, .long nu] (fun U => U.heap.size = sz ∧ va_P (dC, dI) vwCl [(x, .inr (3, [.int 0, .null, .long 0, .null, .null, .int 0, .int 0]))] U.heap ∧ va_K (dC, dI) vwCl [] U ∧ va_D (fun _ => True) [(x, .inr (3, [.int 0, .null, .long 0, .null, .null, .int 0, .int 0]))] ∧ EX em aK aV (va_A [(x, .inr (3, [.int 0, .null, .long 0, .null, .null, .int 0, .int 0]))] sz) U U.heap)) (va_Qv (fun (u : Unit) => True) (fun u t => ∃ (pa : Nat), va_P (dC, dI) vwCl [(x, .inr (3, [.int kd, .ref tx, .long nu, .ref (aK 0), .ref pa, .int 0, .int 1])), (pa, .inr (14, [.ref em, .int 0, .int 0]))] t.heap ∧ va_K (dC, dI) vwCl [] t ∧ va_D (va_A [(x, .inr (3, [.int 0, .null, .long 0, .null, .null, .int 0, .int 0]))] sz) [(x, .inr (3, [.int kd, .ref tx, .long nu, .ref (aK 0), .ref pa, .int 0, .int 1])), (pa, .inr (14, [.ref em, .int 0, .int 0]))]) (va_A [(x, .inr (3, [.int 0, .null, .long 0, .null, .null, .int 0, .int 0]))] sz)) 1 3 (va_A [(x, .inr (3, [.int 0, .null, .long 0, .null, .null, .int 0, .int 0]))] sz) := by
  refine Met.ofW (cc := c_VA_init) (maxL := 5) (ret := none) (by decide) rfl ?_
  intro p e s m args below meth c s₁ B hml hv
  obtain ⟨rfl, hsz, hP, hK, hD0, hE⟩ := hv
  have hx := B.exec
  have hb := B.bytes
  have hr := B.returns
  have hts := atoms_spec (ws := ws_VA_init) B.pre
  have htb := fun w (h : w ∈ TBL) => hts w (List.mem_cons_of_mem _ h)
  have hown : s.vm.findClass R_VA = some m.cls := findClass_of_methodNamed B.named
  have hlocks := B.notSynchronized
  have hin : meth.name = "<init>" := (name_of_methodNamed B.named B.method).1
  subst hsz
  have hD := hD0.self (sz := s.heap.size)
  generalize hAe : va_A [(x, .inr (3, [.int 0, .null, .long 0, .null, .null, .int 0, .int 0]))] s.heap.size = A at hD hE ⊢
  have hA : ∀ q : Nat, s.heap.size ≤ q → A q := fun q h => by rw [← hAe]; exact Or.inr h
  have hS : va_S A s.heap s.heap [] := va_S.rf
  have hP : va_P (dC, dI) vwCl [(x, .inr (3, [.int 0, .null, .long 0, .null, .null, .int 0, .int 0]))] s.heap := hP
  have hl := lv_entry ([.ref x, .int kd, .ref tx, .long nu]) (n := 5) (Nat.le_of_ble_eq_true rfl)
  rw [lg_entry_eq]
  generalize (lg_sl ([.ref x, .int kd, .ref tx, .long nu]) ++ List.replicate (5 - (lg_sl ([.ref x, .int kd, .ref tx, .long nu])).length) Slot.unset).toArray = ls at hl ⊢
  have hl : lv_has ls 5 [(0, .ref x), (1, .int kd), (2, .ref tx), (3, .long nu)] := hl
  refine lv_aload_n hx hb d_VA_init_0 rfl (lv_at hl 0 rfl) ?_
  refine W.objInit hx hb hown (htb _ m_374) (htb _ m_35) (htb _ m_36) rfl (by rw [hml]; exact hl.1) rfl d_VA_init_1 (Nat.le_of_ble_eq_true rfl) (Nat.le_of_ble_eq_true rfl) ?_
  refine W.eq (g2 := F0 m 4 ls []) rfl ?_
  refine lv_aload_n hx hb d_VA_init_4 rfl (lv_at hl 0 rfl) ?_
  refine lv_iload_n hx hb d_VA_init_5 rfl (lv_at hl 1 rfl) ?_
  refine va_putF (D := (dC, dI)) (ci := 3) (v := .int kd) (ty := .int) (C := R_VA) (T := T_VA) (N := 7) hx hb htb in_VA ty_VA ty_VA_ok nm_VA hown hK hP hD hS 0 rfl rfl 0 (by decide) (htb _ m_378) (fun _ h9 => h9) rfl hin rfl (by decide +kernel) rfl rfl (Nat.le_of_ble_eq_true rfl) d_VA_init_6 (fun H locs hP hD hS => ?_)
  have hP : va_P (dC, dI) vwCl [(x, .inr (3, [.int kd, .null, .long 0, .null, .null, .int 0, .int 0]))] H := hP
  have hD : va_D A [(x, .inr (3, [.int kd, .null, .long 0, .null, .null, .int 0, .int 0]))] := hD
  refine lv_aload_n hx hb d_VA_init_9 rfl (lv_at hl 0 rfl) ?_
  refine lv_aload_n hx hb d_VA_init_10 rfl (lv_at hl 2 rfl) ?_
  refine va_putF (D := (dC, dI)) (ci := 3) (v := .ref tx) (ty := (.object "java/lang/String")) (C := R_VA) (T := T_VA) (N := 7) hx hb htb in_VA ty_VA ty_VA_ok nm_VA hown hK hP hD hS 0 rfl rfl 1 (by decide) (htb _ m_384) (fun _ h9 => h9) rfl hin rfl (by decide +kernel) rfl rfl (Nat.le_of_ble_eq_true rfl) d_VA_init_11 (fun H locs hP hD hS => ?_)
  have hP : va_P (dC, dI) vwCl [(x, .inr (3, [.int kd, .ref tx, .long 0, .null, .null, .int 0, .int 0]))] H := hP
  have hD : va_D A [(x, .inr (3, [.int kd, .ref tx, .long 0, .null, .null, .int 0, .int 0]))] := hD
  refine lv_aload_n hx hb d_VA_init_14 rfl (lv_at hl 0 rfl) ?_
  refine lv_lload_n hx hb d_VA_init_15 rfl (lv_at hl 3 rfl) ?_
  refine va_putF (D := (dC, dI)) (ci := 3) (v := .long nu) (ty := .long) (C := R_VA) (T := T_VA) (N := 7) hx hb htb in_VA ty_VA ty_VA_ok nm_VA hown hK hP hD hS 0 rfl rfl 2 (by decide) (htb _ m_388) (fun _ h9 => h9) rfl hin rfl (by decide +kernel) rfl rfl (Nat.le_of_ble_eq_true rfl) d_VA_init_16 (fun H locs hP hD hS => ?_)
  have hP : va_P (dC, dI) vwCl [(x, .inr (3, [.int kd, .ref tx, .long nu, .null, .null, .int 0, .int 0]))] H := hP
  have hD : va_D A [(x, .inr (3, [.int kd, .ref tx, .long nu, .null, .null, .int 0, .int 0]))] := hD
  refine lv_aload_n hx hb d_VA_init_19 rfl (lv_at hl 0 rfl) ?_
  refine va_ldcS hx hb hown (lr_0 hE) d_VA_init_20 ?_
  refine va_putF (D := (dC, dI)) (ci := 3) (v := .ref (aK 0)) (ty := (.object "java/lang/String")) (C := R_VA) (T := T_VA) (N := 7) hx hb htb in_VA ty_VA ty_VA_ok nm_VA hown hK hP hD hS 0 rfl rfl 3 (by decide) (htb _ m_389) (fun _ h9 => h9) rfl hin rfl (by decide +kernel) rfl rfl (Nat.le_of_ble_eq_true rfl) d_VA_init_22 (fun H locs hP hD hS => ?_)
  have hP : va_P (dC, dI) vwCl [(x, .inr (3, [.int kd, .ref tx, .long nu, .ref (aK 0), .null, .int 0, .int 0]))] H := hP
  have hD : va_D A [(x, .inr (3, [.int kd, .ref tx, .long nu, .ref (aK 0), .null, .int 0, .int 0]))] := hD
  refine lv_aload_n hx hb d_VA_init_25 rfl (lv_at hl 0 rfl) ?_
  refine va_new (ci := 14) (fs := [.null, .int 0, .int 0]) (C := R_AL) (T := T_AL) (N := 3) hx hb htb in_AL ty_AL ty_AL_ok hown (htb _ m_376) (htb _ m_74) (htb _ m_8) hK hP hD hS hA rfl (fun j hj => by rcases (show j = 0 ∨ j = 1 ∨ j = 2 by omega) with rfl | rfl | rfl <;> rfl) (Nat.le_of_ble_eq_true rfl) (Nat.le_of_ble_eq_true rfl) d_VA_init_26 (fun pa H hP hD hS => ?_)
  have hP : va_P (dC, dI) vwCl [(x, .inr (3, [.int kd, .ref tx, .long nu, .ref (aK 0), .null, .int 0, .int 0])), (pa, .inr (14, [.null, .int 0, .int 0]))] H := hP
  have hD : va_D A [(x, .inr (3, [.int kd, .ref tx, .long nu, .ref (aK 0), .null, .int 0, .int 0])), (pa, .inr (14, [.null, .int 0, .int 0]))] := hD
  refine W.widen (k := 1) (n := 3) (Nat.le_of_ble_eq_true rfl) (Nat.le_of_ble_eq_true rfl) ?_
  refine lv_dup hx hb d_VA_init_29 rfl ?_
  have hPc := hP.sub (ws' := [(pa, .inr (14, [.null, .int 0, .int 0]))]) [1] rfl
  have hDc := hD.sub (ws' := [(pa, .inr (14, [.null, .int 0, .int 0]))]) [1] (by decide) rfl
  have hFc := va_free (wc := [(pa, .inr (14, [.null, .int 0, .int 0]))]) hD hS hA [1] rfl
  have hKc := hK.sub (tys' := []) [] rfl
  refine va_callv (va_runI (As := []) (rest := [.ref pa, .ref x]) ⟨hx, hb, hml, hown, htb⟩ (k_AL_init l dC dI _ pa em aK aV ) (cwI 0 htb (g_all (fun _ h => h) m_77) rfl rfl rfl (htb _ m_8) (htb _ m_377) (htb _ m_76) rfl (by decide +kernel) ⟨Nat.le_of_ble_eq_true rfl, Nat.le_of_ble_eq_true rfl⟩) ⟨fun a U g mk q => by obtain ⟨q0, q1, qP, qK, qD, z0⟩ := q; exact ⟨q0, q1, qP, va_K.moved (u := U) (U := U.calling g mk a) (Vm.Alike.refl U.vm) qK, qD, EX.same (U := U) (U' := U.calling g mk a) rfl z0⟩, fun U hU hW => ⟨rfl, by rw [hU], by rw [hU]; exact hPc, va_K.moved hW.alike hKc, hDc.weaken (fun _ _ _ _ => trivial), by rw [hU]; exact EX.warm hW ((hE.kept (fun a h1 h2 => hS.2.1 a h1 h2)).narrow hFc)⟩⟩ rfl rfl hl.1 rfl (lv_room (Nat.le_of_ble_eq_true rfl)) d_VA_init_30 ⟨Nat.le_of_ble_eq_true rfl, Nat.le_of_ble_eq_true rfl⟩) hS (fun q _ h => hFc q h) hFc (fun u1 t H1 locs ht hvm hw3 hB hz1 hk1 hS => ?_)
  obtain ⟨hP1, hK1, hD1⟩ := hB
  rw [ht] at hP1
  have hK1 := va_K.moved hvm.symm hK1
  have hw3 : True := hw3
  obtain ⟨hP, hD⟩ := va_join (wr := [(x, .inr (3, [.int kd, .ref tx, .long nu, .ref (aK 0), .null, .int 0, .int 0]))]) (w1 := [(pa, .inr (14, [.ref em, .int 0, .int 0]))]) hP hD [1] [0] rfl rfl (by decide) (by decide) hk1 hFc hP1 hD1
  have hK := (hK.sub (tys' := []) [] rfl).app hK1
  generalize H1 = H at hP hS ⊢
  have hP : va_P (dC, dI) vwCl [(x, .inr (3, [.int kd, .ref tx, .long nu, .ref (aK 0), .null, .int 0, .int 0])), (pa, .inr (14, [.ref em, .int 0, .int 0]))] H := hP
  have hD : va_D A [(x, .inr (3, [.int kd, .ref tx, .long nu, .ref (aK 0), .null, .int 0, .int 0])), (pa, .inr (14, [.ref em, .int 0, .int 0]))] := hD
  have hK : va_K (dC, dI) vwCl [] s := hK
  refine va_putF (D := (dC, dI)) (ci := 3) (v := .ref pa) (ty := (.object "java/util/ArrayList")) (C := R_VA) (T := T_VA) (N := 7) hx hb htb in_VA ty_VA ty_VA_ok nm_VA hown hK hP hD hS 0 rfl rfl 4 (by decide) (htb _ m_393) (fun _ h9 => h9) rfl hin rfl (by decide +kernel) rfl rfl (Nat.le_of_ble_eq_true rfl) d_VA_init_33 (fun H locs hP hD hS => ?_)
  have hP : va_P (dC, dI) vwCl [(x, .inr (3, [.int kd, .ref tx, .long nu, .ref (aK 0), .ref pa, .int 0, .int 0])), (pa, .inr (14, [.ref em, .int 0, .int 0]))] H := hP
  have hD : va_D A [(x, .inr (3, [.int kd, .ref tx, .long nu, .ref (aK 0), .ref pa, .int 0, .int 0])), (pa, .inr (14, [.ref em, .int 0, .int 0]))] := hD
  refine lv_aload_n hx hb d_VA_init_36 rfl (lv_at hl 0 rfl) ?_
  refine lv_iconst (v := 0) hx hb d_VA_init_37 (by decide) ?_
  refine va_putF (D := (dC, dI)) (ci := 3) (v := .int 0) (ty := .int) (C := R_VA) (T := T_VA) (N := 7) hx hb htb in_VA ty_VA ty_VA_ok nm_VA hown hK hP hD hS 0 rfl rfl 5 (by decide) (htb _ m_400) (fun _ h9 => h9) rfl hin rfl (by decide +kernel) rfl rfl (Nat.le_of_ble_eq_true rfl) d_VA_init_38 (fun H locs hP hD hS => ?_)
  have hP : va_P (dC, dI) vwCl [(x, .inr (3, [.int kd, .ref tx, .long nu, .ref (aK 0), .ref pa, .int 0, .int 0])), (pa, .inr (14, [.ref em, .int 0, .int 0]))] H := hP
  have hD : va_D A [(x, .inr (3, [.int kd, .ref tx, .long nu, .ref (aK 0), .ref pa, .int 0, .int 0])), (pa, .inr (14, [.ref em, .int 0, .int 0]))] := hD
  refine lv_aload_n hx hb d_VA_init_41 rfl (lv_at hl 0 rfl) ?_
  refine lv_iconst (v := 1) hx hb d_VA_init_42 (by decide) ?_
  refine va_putF (D := (dC, dI)) (ci := 3) (v := .int 1) (ty := .int) (C := R_VA) (T := T_VA) (N := 7) hx hb htb in_VA ty_VA ty_VA_ok nm_VA hown hK hP hD hS 0 rfl rfl 6 (by decide) (htb _ m_403) (fun _ h9 => h9) rfl hin rfl (by decide +kernel) rfl rfl (Nat.le_of_ble_eq_true rfl) d_VA_init_43 (fun H locs hP hD hS => ?_)
  have hP : va_P (dC, dI) vwCl [(x, .inr (3, [.int kd, .ref tx, .long nu, .ref (aK 0), .ref pa, .int 0, .int 1])), (pa, .inr (14, [.ref em, .int 0, .int 0]))] H := hP
  have hD : va_D A [(x, .inr (3, [.int kd, .ref tx, .long nu, .ref (aK 0), .ref pa, .int 0, .int 1])), (pa, .inr (14, [.ref em, .int 0, .int 0]))] := hD
  have hP9 := hP.sub (ws' := [(x, .inr (3, [.int kd, .ref tx, .long nu, .ref (aK 0), .ref pa, .int 0, .int 1])), (pa, .inr (14, [.ref em, .int 0, .int 0]))]) [0, 1] rfl
  have hD9 := hD.sub (ws' := [(x, .inr (3, [.int kd, .ref tx, .long nu, .ref (aK 0), .ref pa, .int 0, .int 1])), (pa, .inr (14, [.ref em, .int 0, .int 0]))]) [0, 1] (by decide) rfl
  have hK9 := hK.sub (tys' := []) [] rfl
  refine W.widen (k := 1) (n := 3) (Nat.le_of_ble_eq_true rfl) (Nat.le_of_ble_eq_true rfl) ?_
  exact W.vret hx hb hr (fun t ht hW => ⟨⟨(), rfl, trivial, ⟨pa, by rw [ht]; exact hP9, va_K.moved hW.alike hK9, hD9⟩⟩, hS.F ht⟩) hS.2.2 d_VA_init_46
set_option maxHeartbeats 1000000 in
set_option maxRecDepth 100000 in
/-- Value(other, name) -/
theorem k_VA_init3 (l : Launch) (dC : Nat → ClassId) (dI : Nat → Nat → Nat) (sz : Nat) (x : Nat) (y : Nat) (kd : Int32) (tx : Nat) (nu : Int64) (nm : Nat) (pa : Nat) (dp : Int32) (cn : Int32) (n2 : Nat) (fz : va_W) (hy : VAc y kd tx nu nm pa dp cn ∈ fz) : Met l y_VA_init3 ws_VA_init3 ({ frames := 1, cells := 0, slots := 0, locals := 12 }) (va_Pc [.ref x, .ref y, .ref n2] (fun U => U.heap.size = sz ∧ va_P (dC, dI) vwCl ([(x, .inr (3, [.int 0, .null, .long 0, .null, .null, .int 0, .int 0]))] ++ fz) U.heap ∧ va_K (dC, dI) vwCl [] U ∧ va_D (fun _ => True) ([(x, .inr (3, [.int 0, .null, .long 0, .null, .null, .int 0, .int 0]))] ++ fz))) (va_Qv (fun (u : Unit) => True) (fun u t => va_P (dC, dI) vwCl ([(x, .inr (3, [.int kd, .ref tx, .long nu, .ref n2, .ref pa, .int dp, .int cn]))] ++ fz) t.heap ∧ va_K (dC, dI) vwCl [] t ∧ va_D (va_A ([(x, .inr (3, [.int 0, .null, .long 0, .null, .null, .int 0, .int 0]))] ++ fz) sz) ([(x, .inr (3, [.int kd, .ref tx, .long nu, .ref n2, .ref pa, .int dp, .int cn]))] ++ fz)) (va_A ([(x, .inr (3, [.int 0, .null, .long 0, .null, .null, .int 0, .int 0]))] ++ fz) sz)) 0 0 (va_A ([(x, .inr (3, [.int 0, .null, .long 0, .null, .null, .int 0, .int 0]))] ++ fz) sz) := by
  refine Met.ofW (cc := c_VA_init3) (maxL := 3) (ret := none) (by decide) rfl ?_
  intro p e s m args below meth c s₁ B hml hv
  obtain ⟨rfl, hsz, hP, hK, hD0⟩ := hv
  have hx := B.exec
  have hb := B.bytes
  have hr := B.returns
  have hts := atoms_spec (ws := ws_VA_init3) B.pre
  have htb := fun w (h : w ∈ TBL) => hts w (List.mem_cons_of_mem _ h)
  have hown : s.vm.findClass R_VA = some m.cls := findClass_of_methodNamed B.named
  have hlocks := B.notSynchronized
  have hin : meth.name = "<init>" := (name_of_methodNamed B.named B.method).1
  subst hsz
  have hD := hD0.self (sz := s.heap.size)
  generalize hAe : va_A ([(x, .inr (3, [.int 0, .null, .long 0, .null, .null, .int 0, .int 0]))] ++ fz) s.heap.size = A at hD ⊢
  have hA : ∀ q : Nat, s.heap.size ≤ q → A q := fun q h => by rw [← hAe]; exact Or.inr h
  have hS : va_S A s.heap s.heap [] := va_S.rf
  have hP : va_P (dC, dI) vwCl ([(x, .inr (3, [.int 0, .null, .long 0, .null, .null, .int 0, .int 0]))] ++ fz) s.heap := hP
  have hl := lv_entry ([.ref x, .ref y, .ref n2]) (n := 3) (Nat.le_of_ble_eq_true rfl)
  rw [lg_entry_eq]
  generalize (lg_sl ([.ref x, .ref y, .ref n2]) ++ List.replicate (3 - (lg_sl ([.ref x, .ref y, .ref n2])).length) Slot.unset).toArray = ls at hl ⊢
  have hl : lv_has ls 3 [(0, .ref x), (1, .ref y), (2, .ref n2)] := hl
  refine lv_aload_n hx hb d_VA_init3_0 rfl (lv_at hl 0 rfl) ?_
  refine W.objInit hx hb hown (htb _ m_374) (htb _ m_35) (htb _ m_36) rfl (by rw [hml]; exact hl.1) rfl d_VA_init3_1 (Nat.le_of_ble_eq_true rfl) (Nat.le_of_ble_eq_true rfl) ?_
  refine W.eq (g2 := F0 m 4 ls []) rfl ?_
  refine lv_aload_n hx hb d_VA_init3_4 rfl (lv_at hl 0 rfl) ?_
  refine lv_aload_n hx hb d_VA_init3_5 rfl (lv_at hl 1 rfl) ?_
  obtain ⟨qz1, hz1⟩ := List.getElem?_of_mem (List.mem_append_right [(x, .inr (3, [.int 0, .null, .long 0, .null, .null, .int 0, .int 0]))] hy)
  refine va_get (D := (dC, dI)) (ci := 3) (v := .int kd) (C := R_VA) (T := T_VA) (N := 7) hx hb htb in_VA hown hK hP qz1 hz1 rfl 0 (by decide) (htb _ m_378) (fun _ h9 => h9) rfl d_VA_init3_6 ?_
  refine va_putF (D := (dC, dI)) (ci := 3) (v := .int kd) (ty := .int) (C := R_VA) (T := T_VA) (N := 7) hx hb htb in_VA ty_VA ty_VA_ok nm_VA hown hK hP hD hS 0 rfl rfl 0 (by decide) (htb _ m_378) (fun _ h9 => h9) rfl hin rfl (by decide +kernel) rfl rfl (Nat.le_of_ble_eq_true rfl) d_VA_init3_9 (fun H locs hP hD hS => ?_)
  have hP : va_P (dC, dI) vwCl ([(x, .inr (3, [.int kd, .null, .long 0, .null, .null, .int 0, .int 0]))] ++ fz) H := hP
  have hD : va_D A ([(x, .inr (3, [.int kd, .null, .long 0, .null, .null, .int 0, .int 0]))] ++ fz) := hD
  refine lv_aload_n hx hb d_VA_init3_12 rfl (lv_at hl 0 rfl) ?_
  refine lv_aload_n hx hb d_VA_init3_13 rfl (lv_at hl 1 rfl) ?_
  obtain ⟨qz2, hz2⟩ := List.getElem?_of_mem (List.mem_append_right [(x, .inr (3, [.int kd, .null, .long 0, .null, .null, .int 0, .int 0]))] hy)
  refine va_get (D := (dC, dI)) (ci := 3) (v := .ref tx) (C := R_VA) (T := T_VA) (N := 7) hx hb htb in_VA hown hK hP qz2 hz2 rfl 1 (by decide) (htb _ m_384) (fun _ h9 => h9) rfl d_VA_init3_14 ?_
  refine va_putF (D := (dC, dI)) (ci := 3) (v := .ref tx) (ty := (.object "java/lang/String")) (C := R_VA) (T := T_VA) (N := 7) hx hb htb in_VA ty_VA ty_VA_ok nm_VA hown hK hP hD hS 0 rfl rfl 1 (by decide) (htb _ m_384) (fun _ h9 => h9) rfl hin rfl (by decide +kernel) rfl rfl (Nat.le_of_ble_eq_true rfl) d_VA_init3_17 (fun H locs hP hD hS => ?_)
  have hP : va_P (dC, dI) vwCl ([(x, .inr (3, [.int kd, .ref tx, .long 0, .null, .null, .int 0, .int 0]))] ++ fz) H := hP
  have hD : va_D A ([(x, .inr (3, [.int kd, .ref tx, .long 0, .null, .null, .int 0, .int 0]))] ++ fz) := hD
  refine lv_aload_n hx hb d_VA_init3_20 rfl (lv_at hl 0 rfl) ?_
  refine lv_aload_n hx hb d_VA_init3_21 rfl (lv_at hl 1 rfl) ?_
  obtain ⟨qz3, hz3⟩ := List.getElem?_of_mem (List.mem_append_right [(x, .inr (3, [.int kd, .ref tx, .long 0, .null, .null, .int 0, .int 0]))] hy)
  refine va_get (D := (dC, dI)) (ci := 3) (v := .long nu) (C := R_VA) (T := T_VA) (N := 7) hx hb htb in_VA hown hK hP qz3 hz3 rfl 2 (by decide) (htb _ m_388) (fun _ h9 => h9) rfl d_VA_init3_22 ?_
  refine va_putF (D := (dC, dI)) (ci := 3) (v := .long nu) (ty := .long) (C := R_VA) (T := T_VA) (N := 7) hx hb htb in_VA ty_VA ty_VA_ok nm_VA hown hK hP hD hS 0 rfl rfl 2 (by decide) (htb _ m_388) (fun _ h9 => h9) rfl hin rfl (by decide +kernel) rfl rfl (Nat.le_of_ble_eq_true rfl) d_VA_init3_25 (fun H locs hP hD hS => ?_)
  have hP : va_P (dC, dI) vwCl ([(x, .inr (3, [.int kd, .ref tx, .long nu, .null, .null, .int 0, .int 0]))] ++ fz) H := hP
  have hD : va_D A ([(x, .inr (3, [.int kd, .ref tx, .long nu, .null, .null, .int 0, .int 0]))] ++ fz) := hD
  refine lv_aload_n hx hb d_VA_init3_28 rfl (lv_at hl 0 rfl) ?_
  refine lv_aload_n hx hb d_VA_init3_29 rfl (lv_at hl 2 rfl) ?_
  refine va_putF (D := (dC, dI)) (ci := 3) (v := .ref n2) (ty := (.object "java/lang/String")) (C := R_VA) (T := T_VA) (N := 7) hx hb htb in_VA ty_VA ty_VA_ok nm_VA hown hK hP hD hS 0 rfl rfl 3 (by decide) (htb _ m_389) (fun _ h9 => h9) rfl hin rfl (by decide +kernel) rfl rfl (Nat.le_of_ble_eq_true rfl) d_VA_init3_30 (fun H locs hP hD hS => ?_)
  have hP : va_P (dC, dI) vwCl ([(x, .inr (3, [.int kd, .ref tx, .long nu, .ref n2, .null, .int 0, .int 0]))] ++ fz) H := hP
  have hD : va_D A ([(x, .inr (3, [.int kd, .ref tx, .long nu, .ref n2, .null, .int 0, .int 0]))] ++ fz) := hD
  refine lv_aload_n hx hb d_VA_init3_33 rfl (lv_at hl 0 rfl) ?_
  refine lv_aload_n hx hb d_VA_init3_34 rfl (lv_at hl 1 rfl) ?_
  obtain ⟨qz4, hz4⟩ := List.getElem?_of_mem (List.mem_append_right [(x, .inr (3, [.int kd, .ref tx, .long nu, .ref n2, .null, .int 0, .int 0]))] hy)
  refine va_get (D := (dC, dI)) (ci := 3) (v := .ref pa) (C := R_VA) (T := T_VA) (N := 7) hx hb htb in_VA hown hK hP qz4 hz4 rfl 4 (by decide) (htb _ m_393) (fun _ h9 => h9) rfl d_VA_init3_35 ?_
  refine va_putF (D := (dC, dI)) (ci := 3) (v := .ref pa) (ty := (.object "java/util/ArrayList")) (C := R_VA) (T := T_VA) (N := 7) hx hb htb in_VA ty_VA ty_VA_ok nm_VA hown hK hP hD hS 0 rfl rfl 4 (by decide) (htb _ m_393) (fun _ h9 => h9) rfl hin rfl (by decide +kernel) rfl rfl (Nat.le_of_ble_eq_true rfl) d_VA_init3_38 (fun H locs hP hD hS => ?_)
  have hP : va_P (dC, dI) vwCl ([(x, .inr (3, [.int kd, .ref tx, .long nu, .ref n2, .ref pa, .int 0, .int 0]))] ++ fz) H := hP
  have hD : va_D A ([(x, .inr (3, [.int kd, .ref tx, .long nu, .ref n2, .ref pa, .int 0, .int 0]))] ++ fz) := hD
  refine lv_aload_n hx hb d_VA_init3_41 rfl (lv_at hl 0 rfl) ?_
  refine lv_aload_n hx hb d_VA_init3_42 rfl (lv_at hl 1 rfl) ?_
  obtain ⟨qz5, hz5⟩ := List.getElem?_of_mem (List.mem_append_right [(x, .inr (3, [.int kd, .ref tx, .long nu, .ref n2, .ref pa, .int 0, .int 0]))] hy)
  refine va_get (D := (dC, dI)) (ci := 3) (v := .int dp) (C := R_VA) (T := T_VA) (N := 7) hx hb htb in_VA hown hK hP qz5 hz5 rfl 5 (by decide) (htb _ m_400) (fun _ h9 => h9) rfl d_VA_init3_43 ?_
  refine va_putF (D := (dC, dI)) (ci := 3) (v := .int dp) (ty := .int) (C := R_VA) (T := T_VA) (N := 7) hx hb htb in_VA ty_VA ty_VA_ok nm_VA hown hK hP hD hS 0 rfl rfl 5 (by decide) (htb _ m_400) (fun _ h9 => h9) rfl hin rfl (by decide +kernel) rfl rfl (Nat.le_of_ble_eq_true rfl) d_VA_init3_46 (fun H locs hP hD hS => ?_)
  have hP : va_P (dC, dI) vwCl ([(x, .inr (3, [.int kd, .ref tx, .long nu, .ref n2, .ref pa, .int dp, .int 0]))] ++ fz) H := hP
  have hD : va_D A ([(x, .inr (3, [.int kd, .ref tx, .long nu, .ref n2, .ref pa, .int dp, .int 0]))] ++ fz) := hD
  refine lv_aload_n hx hb d_VA_init3_49 rfl (lv_at hl 0 rfl) ?_
  refine lv_aload_n hx hb d_VA_init3_50 rfl (lv_at hl 1 rfl) ?_
  obtain ⟨qz6, hz6⟩ := List.getElem?_of_mem (List.mem_append_right [(x, .inr (3, [.int kd, .ref tx, .long nu, .ref n2, .ref pa, .int dp, .int 0]))] hy)
  refine va_get (D := (dC, dI)) (ci := 3) (v := .int cn) (C := R_VA) (T := T_VA) (N := 7) hx hb htb in_VA hown hK hP qz6 hz6 rfl 6 (by decide) (htb _ m_403) (fun _ h9 => h9) rfl d_VA_init3_51 ?_
  refine va_putF (D := (dC, dI)) (ci := 3) (v := .int cn) (ty := .int) (C := R_VA) (T := T_VA) (N := 7) hx hb htb in_VA ty_VA ty_VA_ok nm_VA hown hK hP hD hS 0 rfl rfl 6 (by decide) (htb _ m_403) (fun _ h9 => h9) rfl hin rfl (by decide +kernel) rfl rfl (Nat.le_of_ble_eq_true rfl) d_VA_init3_54 (fun H locs hP hD hS => ?_)
  have hP : va_P (dC, dI) vwCl ([(x, .inr (3, [.int kd, .ref tx, .long nu, .ref n2, .ref pa, .int dp, .int cn]))] ++ fz) H := hP
  have hD : va_D A ([(x, .inr (3, [.int kd, .ref tx, .long nu, .ref n2, .ref pa, .int dp, .int cn]))] ++ fz) := hD
  have hP9 := zz_pickP (pre := [(x, .inr (3, [.int kd, .ref tx, .long nu, .ref n2, .ref pa, .int dp, .int cn]))]) (fz := fz) (wc := [(x, .inr (3, [.int kd, .ref tx, .long nu, .ref n2, .ref pa, .int dp, .int cn]))]) hP [0] rfl
  have hD9 := zz_pickD (pre := [(x, .inr (3, [.int kd, .ref tx, .long nu, .ref n2, .ref pa, .int dp, .int cn]))]) (fz := fz) (wc := [(x, .inr (3, [.int kd, .ref tx, .long nu, .ref n2, .ref pa, .int dp, .int cn]))]) hD [0] (by decide) rfl
  have hK9 := hK.sub (tys' := []) [] rfl
  refine W.widen (k := 0) (n := 0) (Nat.le_of_ble_eq_true rfl) (Nat.le_of_ble_eq_true rfl) ?_
  exact W.vret hx hb hr (fun t ht hW => ⟨⟨(), rfl, trivial, ⟨by rw [ht]; exact hP9, va_K.moved hW.alike hK9, hD9⟩⟩, hS.F ht⟩) hS.2.2 d_VA_init3_57
set_option maxHeartbeats 1000000 in
set_option maxRecDepth 100000 in
/-- named(name) -/
theorem k_VA_named (l : Launch) (dC : Nat → ClassId) (dI : Nat → Nat → Nat) (sz : Nat) (y : Nat) (kd : Int32) (tx : Nat) (nu : Int64) (nm : Nat) (pa : Nat) (dp : Int32) (cn : Int32) (n2 : Nat) (fz : va_W) (hy : VAc y kd tx nu nm pa dp cn ∈ fz) : Met l y_VA_named ws_VA_named ({ frames := 2, cells := 1, slots := 7, locals := 34 }) (va_Pc [.ref y, .ref n2] (fun U => U.heap.size = sz ∧ va_P (dC, dI) vwCl ([] ++ fz) U.heap ∧ va_K (dC, dI) vwCl [] U ∧ va_D (fun _ => True) ([] ++ fz))) (va_Qr (fun (u : Unit) => True) (fun u ra t => va_P (dC, dI) vwCl ([(ra, .inr (3, [.int kd, .ref tx, .long nu, .ref n2, .ref pa, .int dp, .int cn]))] ++ fz) t.heap ∧ va_K (dC, dI) vwCl [] t ∧ va_D (va_A ([] ++ fz) sz) ([(ra, .inr (3, [.int kd, .ref tx, .long nu, .ref n2, .ref pa, .int dp, .int cn]))] ++ fz)) (va_A ([] ++ fz) sz)) 1 7 (va_A ([] ++ fz) sz) := by
  refine Met.ofW (cc := c_VA_named) (maxL := 2) (ret := (some (.object "PatchStore$Value"))) (by decide) rfl ?_
  intro p e s m args below meth c s₁ B hml hv
  obtain ⟨rfl, hsz, hP, hK, hD0⟩ := hv
  have hx := B.exec
  have hb := B.bytes
  have hr := B.returns
  have hts := atoms_spec (ws := ws_VA_named) B.pre
  have htb := fun w (h : w ∈ TBL) => hts w (List.mem_cons_of_mem _ h)
  have hown : s.vm.findClass R_VA = some m.cls := findClass_of_methodNamed B.named
  have hlocks := B.notSynchronized
  subst hsz
  have hD := hD0.self (sz := s.heap.size)
  generalize hAe : va_A ([] ++ fz) s.heap.size = A at hD ⊢
  have hA : ∀ q : Nat, s.heap.size ≤ q → A q := fun q h => by rw [← hAe]; exact Or.inr h
  have hS : va_S A s.heap s.heap [] := va_S.rf
  have hP : va_P (dC, dI) vwCl ([] ++ fz) s.heap := hP
  have hl := lv_entry ([.ref y, .ref n2]) (n := 2) (Nat.le_of_ble_eq_true rfl)
  rw [lg_entry_eq]
  generalize (lg_sl ([.ref y, .ref n2]) ++ List.replicate (2 - (lg_sl ([.ref y, .ref n2])).length) Slot.unset).toArray = ls at hl ⊢
  have hl : lv_has ls 2 [(0, .ref y), (1, .ref n2)] := hl
  refine va_new (ci := 3) (fs := [.int 0, .null, .long 0, .null, .null, .int 0, .int 0]) (C := R_VA) (T := T_VA) (N := 7) hx hb htb in_VA ty_VA ty_VA_ok hown (htb _ m_499) (htb _ m_370) (htb _ m_18) hK hP hD hS hA rfl (fun j hj => by rcases (show j = 0 ∨ j = 1 ∨ j = 2 ∨ j = 3 ∨ j = 4 ∨ j = 5 ∨ j = 6 by omega) with rfl | rfl | rfl | rfl | rfl | rfl | rfl <;> rfl) (Nat.le_of_ble_eq_true rfl) (Nat.le_of_ble_eq_true rfl) d_VA_named_0 (fun z H hP hD hS => ?_)
  have hP := zz_rotP (pre := []) (fz := fz) hP
  have hD := zz_rotD (pre := []) (fz := fz) hD
  have hP : va_P (dC, dI) vwCl ([(z, .inr (3, [.int 0, .null, .long 0, .null, .null, .int 0, .int 0]))] ++ fz) H := hP
  have hD : va_D A ([(z, .inr (3, [.int 0, .null, .long 0, .null, .null, .int 0, .int 0]))] ++ fz) := hD
  refine W.widen (k := 1) (n := 7) (Nat.le_of_ble_eq_true rfl) (Nat.le_of_ble_eq_true rfl) ?_
  refine lv_dup hx hb d_VA_named_3 rfl ?_
  refine lv_aload_n hx hb d_VA_named_4 rfl (lv_at hl 0 rfl) ?_
  refine lv_aload_n hx hb d_VA_named_5 rfl (lv_at hl 1 rfl) ?_
  have hPc := zz_pickP (pre := [(z, .inr (3, [.int 0, .null, .long 0, .null, .null, .int 0, .int 0]))]) (fz := fz) (wc := [(z, .inr (3, [.int 0, .null, .long 0, .null, .null, .int 0, .int 0]))]) hP [0] rfl
  have hDc := zz_pickD (pre := [(z, .inr (3, [.int 0, .null, .long 0, .null, .null, .int 0, .int 0]))]) (fz := fz) (wc := [(z, .inr (3, [.int 0, .null, .long 0, .null, .null, .int 0, .int 0]))]) hD [0] (by decide) rfl
  have hFc := zz_free (pre := [(z, .inr (3, [.int 0, .null, .long 0, .null, .null, .int 0, .int 0]))]) (fz := fz) (wc := [(z, .inr (3, [.int 0, .null, .long 0, .null, .null, .int 0, .int 0]))]) hD hS hA [0] rfl
  have hKc := hK.sub (tys' := []) [] rfl
  refine va_callv (va_runI (As := [.ref y, .ref n2]) (rest := [.ref z]) ⟨hx, hb, hml, hown, htb⟩ (k_VA_init3 l dC dI _ z y kd tx nu nm pa dp cn n2 fz hy) (cwI 2 htb (g_all (fun _ h => h) m_521) rfl rfl rfl (htb _ m_18) (htb _ m_519) (htb _ m_520) rfl (by decide +kernel) ⟨Nat.le_of_ble_eq_true rfl, Nat.le_of_ble_eq_true rfl⟩) ⟨fun a U g mk q => by obtain ⟨q0, q1, qP, qK, qD⟩ := q; exact ⟨q0, q1, qP, va_K.moved (u := U) (U := U.calling g mk a) (Vm.Alike.refl U.vm) qK, qD⟩, fun U hU hW => ⟨rfl, by rw [hU], by rw [hU]; exact hPc, va_K.moved hW.alike hKc, hDc.weaken (fun _ _ _ _ => trivial)⟩⟩ rfl rfl hl.1 rfl (lv_room (Nat.le_of_ble_eq_true rfl)) d_VA_named_6 ⟨Nat.le_of_ble_eq_true rfl, Nat.le_of_ble_eq_true rfl⟩) hS (fun q _ h => hFc q h) hFc (fun u1 t H1 locs ht hvm hw3 hB hz1 hk1 hS => ?_)
  obtain ⟨hP1, hK1, hD1⟩ := hB
  rw [ht] at hP1
  have hK1 := va_K.moved hvm.symm hK1
  have hw3 : True := hw3
  obtain ⟨hP, hD⟩ := zz_join (pre := [(z, .inr (3, [.int 0, .null, .long 0, .null, .null, .int 0, .int 0]))]) (fz := fz) (wc := [(z, .inr (3, [.int 0, .null, .long 0, .null, .null, .int 0, .int 0]))]) (wr := []) (w1 := ([(z, .inr (3, [.int kd, .ref tx, .long nu, .ref n2, .ref pa, .int dp, .int cn]))] ++ fz)) hP hD [0] [] rfl rfl (by decide) (by decide) hk1 hFc hP1 hD1
  have hK := (hK.sub (tys' := []) [] rfl).app hK1
  generalize H1 = H at hP hS ⊢
  have hP : va_P (dC, dI) vwCl ([(z, .inr (3, [.int kd, .ref tx, .long nu, .ref n2, .ref pa, .int dp, .int cn]))] ++ fz) H := hP
  have hD : va_D A ([(z, .inr (3, [.int kd, .ref tx, .long nu, .ref n2, .ref pa, .int dp, .int cn]))] ++ fz) := hD
  have hK : va_K (dC, dI) vwCl [] s := hK
  have hP9 := zz_pickP (pre := [(z, .inr (3, [.int kd, .ref tx, .long nu, .ref n2, .ref pa, .int dp, .int cn]))]) (fz := fz) (wc := [(z, .inr (3, [.int kd, .ref tx, .long nu, .ref n2, .ref pa, .int dp, .int cn]))]) hP [0] rfl
  have hD9 := zz_pickD (pre := [(z, .inr (3, [.int kd, .ref tx, .long nu, .ref n2, .ref pa, .int dp, .int cn]))]) (fz := fz) (wc := [(z, .inr (3, [.int kd, .ref tx, .long nu, .ref n2, .ref pa, .int dp, .int cn]))]) hD [0] (by decide) rfl
  have hK9 := hK.sub (tys' := []) [] rfl
  refine W.widen (k := 1) (n := 7) (Nat.le_of_ble_eq_true rfl) (Nat.le_of_ble_eq_true rfl) ?_
  exact W.aret (v := .ref z) hx hb hr (Or.inl ⟨_, rfl⟩) (Or.inr ⟨_, rfl⟩) (fun t ht hW => ⟨⟨(), z, rfl, trivial, ⟨by rw [ht]; exact hP9, va_K.moved hW.alike hK9, hD9⟩⟩, hS.F ht⟩) hS.2.2 d_VA_named_9
set_option maxHeartbeats 1000000 in
set_option maxRecDepth 100000 in
/-- word() -/
theorem k_CU_word (l : Launch) (dC : Nat → ClassId) (dI : Nat → Nat → Nat) (sz : Nat) (x : Nat) (dl : Nat) (sb : Nat) (cC : ClassId) (f : Nat → Int32) (L : List Nat) (a : Nat) (cB : ClassId) (cO : ClassId) (em : Nat) (aK : Nat → Nat) (aV : Nat → Nat) (fz : va_W) (hL : Drf L f) (ha : a ≤ L.length) : Met l y_CU_word ws_CU_word ({ frames := 5, cells := 2, slots := 10, locals := 96 }) (va_Pc [.ref x] (fun U => U.heap.size = sz ∧ va_P (dC, dI) vwCl ([(x, .inr (1, [.ref dl, .int (nI L.length), .int (nI a), .ref sb])), (dl, .inl (cC, 160, .inl f))] ++ fz) U.heap ∧ va_K (dC, dI) vwCl [(cC, .char), (cB, .byte)] U ∧ va_D (fun _ => True) ([(x, .inr (1, [.ref dl, .int (nI L.length), .int (nI a), .ref sb])), (dl, .inl (cC, 160, .inl f))] ++ fz) ∧ EX em aK aV (va_A ([(x, .inr (1, [.ref dl, .int (nI L.length), .int (nI a), .ref sb])), (dl, .inl (cC, 160, .inl f))] ++ fz) sz) U U.heap)) (va_Qq (fun (r : Option Nat) (u : Nat × va_W) => a ≤ u.1 ∧ u.1 ≤ L.length ∧ ((r = none ∧ wrd (L.drop a) = none ∧ u.2 = []) ∨ ∃ y8, r = some y8 ∧ wrd (L.drop a) = some (L.drop u.1) ∧ VT cB cO em aK 1 u.2 y8 [] [(wrdK (L.drop a), 0, 0, [], [])])) (fun u t => va_P (dC, dI) vwCl ([(x, .inr (1, [.ref dl, .int (nI L.length), .int (nI u.1), .ref sb])), (dl, .inl (cC, 160, .inl f))] ++ (u.2 ++ fz)) t.heap ∧ va_K (dC, dI) vwCl [(cC, .char), (cB, .byte)] t ∧ va_D (va_A ([(x, .inr (1, [.ref dl, .int (nI L.length), .int (nI a), .ref sb])), (dl, .inl (cC, 160, .inl f))] ++ fz) sz) ([(x, .inr (1, [.ref dl, .int (nI L.length), .int (nI u.1), .ref sb])), (dl, .inl (cC, 160, .inl f))] ++ (u.2 ++ fz))) (va_A ([(x, .inr (1, [.ref dl, .int (nI L.length), .int (nI a), .ref sb])), (dl, .inl (cC, 160, .inl f))] ++ fz) sz)) 2 10 (va_A ([(x, .inr (1, [.ref dl, .int (nI L.length), .int (nI a), .ref sb])), (dl, .inl (cC, 160, .inl f))] ++ fz) sz) := by
  refine Met.ofW (cc := c_CU_word) (maxL := 3) (ret := (some (.object "PatchStore$Value"))) (by decide) rfl ?_
  intro p e s m args below meth c s₁ B hml hv
  obtain ⟨hargs, hsz, hP, hK, hD0, hE⟩ := hv
  rw [show entryFrame m args 3 = entryFrame m ([.ref x]).toArray 3 by rw [hargs]]
  have hx := B.exec
  have hb := B.bytes
  have hr := B.returns
  have hts := atoms_spec (ws := ws_CU_word) B.pre
  have htb := fun w (h : w ∈ TBL) => hts w (List.mem_cons_of_mem _ h)
  have hown : s.vm.findClass R_CU = some m.cls := findClass_of_methodNamed B.named
  have hlocks := B.notSynchronized
  subst hsz
  have hD := hD0.self (sz := s.heap.size)
  generalize hAe : va_A ([(x, .inr (1, [.ref dl, .int (nI L.length), .int (nI a), .ref sb])), (dl, .inl (cC, 160, .inl f))] ++ fz) s.heap.size = A at hD hE ⊢
  have hA : ∀ q : Nat, s.heap.size ≤ q → A q := fun q h => by rw [← hAe]; exact Or.inr h
  have hS : va_S A s.heap s.heap [] := va_S.rf
  have hP : va_P (dC, dI) vwCl ([(x, .inr (1, [.ref dl, .int (nI L.length), .int (nI a), .ref sb])), (dl, .inl (cC, 160, .inl f))] ++ fz) s.heap := hP
  have hl := lv_entry ([.ref x]) (n := 3) (Nat.le_of_ble_eq_true rfl)
  rw [lg_entry_eq]
  generalize (lg_sl ([.ref x]) ++ List.replicate (3 - (lg_sl ([.ref x])).length) Slot.unset).toArray = ls at hl ⊢
  have hl : lv_has ls 3 [(0, .ref x)] := hl
  refine zz_nQ (fun Q hQ => ?_)
  have h160 : L.length ≤ 160 := hL.1
  have hcl0 := hL.lt a
  have hhd : (L.drop a).getD 0 0 = L.getD a 0 := drop_head
  refine lv_aload_n hx hb d_CU_word_0 rfl (lv_at hl 0 rfl) ?_
  have hPc : va_P (dC, dI) vwCl [(x, .inr (1, [.ref dl, .int (nI L.length), .int (nI a), .ref sb])), (dl, .inl (cC, 160, .inl f))] _ := hP.sub (ws' := [(x, .inr (1, [.ref dl, .int (nI L.length), .int (nI a), .ref sb])), (dl, .inl (cC, 160, .inl f))]) [0, 1] rfl
  have hKc := hK.sub (tys' := [(cC, .char)]) [0] rfl
  refine vp_callSi (W.runV (As := []) (rest := []) ⟨hx, hb, hml, hown, htb⟩ (q_CU_ahead l dC dI x dl sb cC f L a hL ha) (cwV 0 htb (g_V (fun _ h => h) m_187 m_192 m_185 m_186 m_10) rfl rfl rfl (by decide +kernel) ⟨Nat.le_of_ble_eq_true rfl, Nat.le_of_ble_eq_true rfl⟩) ⟨fun a U g mk q => by obtain ⟨q0, qP, qK⟩ := q; exact ⟨q0, qP, va_K.moved (u := U) (U := U.calling g mk a) (Vm.Alike.refl U.vm) qK⟩, va_recv hKc hPc (ci := 1) rfl (q0 := 0) rfl, fun U hU hW => ⟨rfl, by rw [hU]; exact hPc, va_K.moved hW.alike hKc⟩⟩ rfl rfl hl.1 rfl (lv_room (Nat.le_of_ble_eq_true rfl)) d_CU_word_1 ⟨Nat.le_of_ble_eq_true rfl, Nat.le_of_ble_eq_true rfl⟩) (fun r1 hw2 => ?_)
  have hw2 : r1 = nI (L.getD a 0) := hw2
  obtain rfl := hw2
  refine lv_bipush (v := 110) hx hb d_CU_word_4 (by decide) ?_
  refine lv_icmp_ne (tgt := 14) hx hb d_CU_word_6 rfl (fun h1 => ?_) (fun h1 => ?_)
  · have h1 : ¬ L.getD a 0 = 110 := fun h => h1 (by rw [h]; rfl)
    refine lv_aload_n hx hb d_CU_word_14 rfl (lv_at hl 0 rfl) ?_
    have hPc : va_P (dC, dI) vwCl [(x, .inr (1, [.ref dl, .int (nI L.length), .int (nI a), .ref sb])), (dl, .inl (cC, 160, .inl f))] _ := hP.sub (ws' := [(x, .inr (1, [.ref dl, .int (nI L.length), .int (nI a), .ref sb])), (dl, .inl (cC, 160, .inl f))]) [0, 1] rfl
    have hKc := hK.sub (tys' := [(cC, .char)]) [0] rfl
    refine vp_callSi (W.runV (As := []) (rest := []) ⟨hx, hb, hml, hown, htb⟩ (q_CU_ahead l dC dI x dl sb cC f L a hL ha) (cwV 0 htb (g_V (fun _ h => h) m_187 m_192 m_185 m_186 m_10) rfl rfl rfl (by decide +kernel) ⟨Nat.le_of_ble_eq_true rfl, Nat.le_of_ble_eq_true rfl⟩) ⟨fun a U g mk q => by obtain ⟨q0, qP, qK⟩ := q; exact ⟨q0, qP, va_K.moved (u := U) (U := U.calling g mk a) (Vm.Alike.refl U.vm) qK⟩, va_recv hKc hPc (ci := 1) rfl (q0 := 0) rfl, fun U hU hW => ⟨rfl, by rw [hU]; exact hPc, va_K.moved hW.alike hKc⟩⟩ rfl rfl hl.1 rfl (lv_room (Nat.le_of_ble_eq_true rfl)) d_CU_word_15 ⟨Nat.le_of_ble_eq_true rfl, Nat.le_of_ble_eq_true rfl⟩) (fun r3 hw4 => ?_)
    have hw4 : r3 = nI (L.getD a 0) := hw4
    obtain rfl := hw4
    refine lv_bipush (v := 116) hx hb d_CU_word_18 (by decide) ?_
    refine lv_icmp_ne (tgt := 28) hx hb d_CU_word_20 rfl (fun h2 => ?_) (fun h2 => ?_)
    · have h2 : ¬ L.getD a 0 = 116 := fun h => h2 (by rw [h]; rfl)
      refine va_ldcS hx hb hown (lr_4 hE) d_CU_word_28 ?_
      have hwk : wrdK (L.drop a) = 2 := by unfold wrdK; rw [hhd, if_neg h1, if_neg h2]
      have hwr : wrd (L.drop a) = pfx (LTx.getD 4 []) (L.drop a) := by unfold wrd; rw [hwk]
      have htx : TX cB aK fz (aK 4) (LTx.getD 4 []) := Or.inr ⟨4, by decide, rfl, rfl⟩
      have hTl : (LTx.getD 4 []).length = 5 := by decide
      refine lv_astore_n hx hb d_CU_word_30 rfl hl (by decide) rfl (fun ls hl => ?_)
      have hl : lv_has ls 3 [(1, .ref (aK 4)), (0, .ref x)] := hl
      refine lv_iconst (v := 0) hx hb d_CU_word_31 (by decide) ?_
      refine lv_istore_n hx hb d_CU_word_32 rfl hl (by decide) rfl (fun ls hl => ?_)
      have hl : lv_has ls 3 [(2, .int 0), (1, .ref (aK 4)), (0, .ref x)] := hl
      have hloop : ∀ (k9 : Nat) (j : Nat) (b : Nat) (H : Heap) (locs : List Loc) (ls : Array Slot), 5 - j = k9 → a ≤ b → b ≤ L.length → pfx (LTx.getD 4 []) (L.drop a) = pfx (List.drop j (LTx.getD 4 [])) (L.drop b) → j ≤ 5 → lv_has ls 3 [(2, .int (nI j)), (1, .ref (aK 4)), (0, .ref x)] → va_P (dC, dI) vwCl ([(x, .inr (1, [.ref dl, .int (nI L.length), .int (nI b), .ref sb])), (dl, .inl (cC, 160, .inl f))] ++ fz) H → va_D A ([(x, .inr (1, [.ref dl, .int (nI L.length), .int (nI b), .ref sb])), (dl, .inl (cC, 160, .inl f))] ++ fz) → va_S A s.heap H locs → W p l e (headSpec ws_CU_word ({ frames := 5, cells := 2, slots := 10, locals := 96 })).room s m args below meth c H locs 0 0 Q (F0 m 33 ls []) := by
        intro k9
        induction k9 using Nat.strongRecOn with
        | ind k9 ih =>
          intro j b H locs ls hk9 hi0 hi1 hi2 hi3 hl hP hD hS
          refine lv_iload_n hx hb d_CU_word_33 rfl (lv_at hl 0 rfl) ?_
          refine lv_aload_n hx hb d_CU_word_34 rfl (lv_at hl 1 rfl) ?_
          obtain ⟨v9, hSV_a⟩ := htx.sv htb hE (fun q h1 h2 => hS.2.1 q h1 h2) hK hP (fun q hq => List.mem_append_right _ hq) 1 rfl
          have hPc : va_P (dC, dI) vwCl [] _ := hP.sub (ws' := []) [] rfl
          have hKc := hK.sub (tys' := []) [] rfl
          refine vp_callSi (W.runV (As := []) (rest := [.int (nI j)]) ⟨hx, hb, hml, hown, htb⟩ (q_ST_length l dC dI (aK 4) v9 (LTx.getD 4 []) em aK aV A ) (cwV 0 htb (g_V (fun _ h => h) m_452 m_449 m_450 m_451 m_4) rfl rfl rfl (by decide +kernel) ⟨Nat.le_of_ble_eq_true rfl, Nat.le_of_ble_eq_true rfl⟩) ⟨fun a U g mk q => by obtain ⟨q0, qP, qK, z0, z1⟩ := q; exact ⟨q0, qP, va_K.moved (u := U) (U := U.calling g mk a) (Vm.Alike.refl U.vm) qK, EX.same (U := U) (U' := U.calling g mk a) rfl z0, SV.moved (Vm.Alike.refl U.vm) z1⟩, hSV_a.recv, fun U hU hW => ⟨rfl, by rw [hU]; exact hPc, va_K.moved hW.alike hKc, by rw [hU]; exact EX.warm hW (hE.kept (fun a h1 h2 => hS.2.1 a h1 h2)), by rw [hU]; exact SV.moved hW.alike hSV_a⟩⟩ rfl rfl hl.1 rfl (lv_room (Nat.le_of_ble_eq_true rfl)) d_CU_word_35 ⟨Nat.le_of_ble_eq_true rfl, Nat.le_of_ble_eq_true rfl⟩) (fun r5 hw6 => ?_)
          have hw6 : r5 = nI (LTx.getD 4 []).length := hw6
          obtain rfl : r5 = nI (LTx.getD 4 []).length := hw6
          refine lv_icmp_ge (tgt := 61) hx hb d_CU_word_38 rfl (fun h5 => ?_) (fun h5 => ?_)
          · have h5 : (LTx.getD 4 []).length ≤ j := (nI_leI (by omega) (by omega)).mp h5
            have hsm : wrd (L.drop a) = some (L.drop b) := by rw [hwr, hi2, List.drop_eq_nil_of_le h5]; rfl
            refine va_new (ci := 3) (fs := [.int 0, .null, .long 0, .null, .null, .int 0, .int 0]) (C := R_VA) (T := T_VA) (N := 7) hx hb htb in_VA ty_VA ty_VA_ok hown (htb _ m_436) (htb _ m_370) (htb _ m_18) hK hP hD hS hA rfl (fun j hj => by rcases (show j = 0 ∨ j = 1 ∨ j = 2 ∨ j = 3 ∨ j = 4 ∨ j = 5 ∨ j = 6 by omega) with rfl | rfl | rfl | rfl | rfl | rfl | rfl <;> rfl) (Nat.le_of_ble_eq_true rfl) (Nat.le_of_ble_eq_true rfl) d_CU_word_61 (fun z H hP hD hS => ?_)
            have hP := zz_rotP (pre := [(x, .inr (1, [.ref dl, .int (nI L.length), .int (nI b), .ref sb])), (dl, .inl (cC, 160, .inl f))]) (fz := fz) hP
            have hD := zz_rotD (pre := [(x, .inr (1, [.ref dl, .int (nI L.length), .int (nI b), .ref sb])), (dl, .inl (cC, 160, .inl f))]) (fz := fz) hD
            have hP : va_P (dC, dI) vwCl ([(x, .inr (1, [.ref dl, .int (nI L.length), .int (nI b), .ref sb])), (dl, .inl (cC, 160, .inl f)), (z, .inr (3, [.int 0, .null, .long 0, .null, .null, .int 0, .int 0]))] ++ fz) H := hP
            have hD : va_D A ([(x, .inr (1, [.ref dl, .int (nI L.length), .int (nI b), .ref sb])), (dl, .inl (cC, 160, .inl f)), (z, .inr (3, [.int 0, .null, .long 0, .null, .null, .int 0, .int 0]))] ++ fz) := hD
            refine W.widen (k := 1) (n := 7) (Nat.le_of_ble_eq_true rfl) (Nat.le_of_ble_eq_true rfl) ?_
            refine lv_dup hx hb d_CU_word_64 rfl ?_
            refine lv_iconst (v := 0) hx hb d_CU_word_65 (by decide) ?_
            refine lv_aload_n hx hb d_CU_word_66 rfl (lv_at hl 1 rfl) ?_
            refine lv_lconst (v := 0) hx hb d_CU_word_67 (by decide) ?_
            have hPc := hP.sub (ws' := [(z, .inr (3, [.int 0, .null, .long 0, .null, .null, .int 0, .int 0]))]) [2] rfl
            have hDc := hD.sub (ws' := [(z, .inr (3, [.int 0, .null, .long 0, .null, .null, .int 0, .int 0]))]) [2] (by decide) rfl
            have hFc := va_free (wc := [(z, .inr (3, [.int 0, .null, .long 0, .null, .null, .int 0, .int 0]))]) hD hS hA [2] rfl
            have hKc := hK.sub (tys' := []) [] rfl
            refine va_callv (va_runI (As := [.int 0, .ref (aK 4), .long 0]) (rest := [.ref z]) ⟨hx, hb, hml, hown, htb⟩ (k_VA_init l dC dI _ z 0 (aK 4) 0 em aK aV ) (cwI 3 htb (g_all (fun _ h => h) m_373) rfl rfl rfl (htb _ m_18) (htb _ m_438) (htb _ m_372) rfl (by decide +kernel) ⟨Nat.le_of_ble_eq_true rfl, Nat.le_of_ble_eq_true rfl⟩) ⟨fun a U g mk q => by obtain ⟨q0, q1, qP, qK, qD, z0⟩ := q; exact ⟨q0, q1, qP, va_K.moved (u := U) (U := U.calling g mk a) (Vm.Alike.refl U.vm) qK, qD, EX.same (U := U) (U' := U.calling g mk a) rfl z0⟩, fun U hU hW => ⟨rfl, by rw [hU], by rw [hU]; exact hPc, va_K.moved hW.alike hKc, hDc.weaken (fun _ _ _ _ => trivial), by rw [hU]; exact EX.warm hW ((hE.kept (fun a h1 h2 => hS.2.1 a h1 h2)).narrow hFc)⟩⟩ rfl rfl hl.1 rfl (lv_room (Nat.le_of_ble_eq_true rfl)) d_CU_word_68 ⟨Nat.le_of_ble_eq_true rfl, Nat.le_of_ble_eq_true rfl⟩) hS (fun q _ h => hFc q h) hFc (fun u7 t H1 locs ht hvm hw9 hB hz1 hk1 hS => ?_)
            obtain ⟨x11, hP1, hK1, hD1⟩ := hB
            rw [ht] at hP1
            have hK1 := va_K.moved hvm.symm hK1
            have hw9 : True := hw9
            obtain ⟨hP, hD⟩ := zz_joinN (pre := [(x, .inr (1, [.ref dl, .int (nI L.length), .int (nI b), .ref sb])), (dl, .inl (cC, 160, .inl f)), (z, .inr (3, [.int 0, .null, .long 0, .null, .null, .int 0, .int 0]))]) (fz := fz) (wc := [(z, .inr (3, [.int 0, .null, .long 0, .null, .null, .int 0, .int 0]))]) (wr := [(x, .inr (1, [.ref dl, .int (nI L.length), .int (nI b), .ref sb])), (dl, .inl (cC, 160, .inl f))]) (w1 := [(z, .inr (3, [.int 0, .ref (aK 4), .long 0, .ref (aK 0), .ref x11, .int 0, .int 1])), (x11, .inr (14, [.ref em, .int 0, .int 0]))]) hP hD [2] [0, 1] rfl rfl (by decide) (by decide) hk1 hFc hP1 hD1
            have hK := (hK.sub (tys' := [(cC, .char), (cB, .byte)]) [0, 1] rfl).app hK1
            generalize H1 = H at hP hS ⊢
            have hP : va_P (dC, dI) vwCl ([(x, .inr (1, [.ref dl, .int (nI L.length), .int (nI b), .ref sb])), (dl, .inl (cC, 160, .inl f)), (z, .inr (3, [.int 0, .ref (aK 4), .long 0, .ref (aK 0), .ref x11, .int 0, .int 1])), (x11, .inr (14, [.ref em, .int 0, .int 0]))] ++ fz) H := hP
            have hD : va_D A ([(x, .inr (1, [.ref dl, .int (nI L.length), .int (nI b), .ref sb])), (dl, .inl (cC, 160, .inl f)), (z, .inr (3, [.int 0, .ref (aK 4), .long 0, .ref (aK 0), .ref x11, .int 0, .int 1])), (x11, .inr (14, [.ref em, .int 0, .int 0]))] ++ fz) := hD
            have hK : va_K (dC, dI) vwCl [(cC, .char), (cB, .byte)] s := hK
            refine W.widen (k := 2) (n := 10) (Nat.le_of_ble_eq_true rfl) (Nat.le_of_ble_eq_true rfl) ?_
            have hP9 := zz_pickP (pre := [(x, .inr (1, [.ref dl, .int (nI L.length), .int (nI b), .ref sb])), (dl, .inl (cC, 160, .inl f)), (z, .inr (3, [.int 0, .ref (aK 4), .long 0, .ref (aK 0), .ref x11, .int 0, .int 1])), (x11, .inr (14, [.ref em, .int 0, .int 0]))]) (fz := fz) (wc := [(x, .inr (1, [.ref dl, .int (nI L.length), .int (nI b), .ref sb])), (dl, .inl (cC, 160, .inl f)), (z, .inr (3, [.int 0, .ref (aK 4), .long 0, .ref (aK 0), .ref x11, .int 0, .int 1])), (x11, .inr (14, [.ref em, .int 0, .int 0]))]) hP [0, 1, 2, 3] rfl
            have hD9 := zz_pickD (pre := [(x, .inr (1, [.ref dl, .int (nI L.length), .int (nI b), .ref sb])), (dl, .inl (cC, 160, .inl f)), (z, .inr (3, [.int 0, .ref (aK 4), .long 0, .ref (aK 0), .ref x11, .int 0, .int 1])), (x11, .inr (14, [.ref em, .int 0, .int 0]))]) (fz := fz) (wc := [(x, .inr (1, [.ref dl, .int (nI L.length), .int (nI b), .ref sb])), (dl, .inl (cC, 160, .inl f)), (z, .inr (3, [.int 0, .ref (aK 4), .long 0, .ref (aK 0), .ref x11, .int 0, .int 1])), (x11, .inr (14, [.ref em, .int 0, .int 0]))]) hD [0, 1, 2, 3] (by decide) rfl
            have hK9 := hK.sub (tys' := [(cC, .char), (cB, .byte)]) [0, 1] rfl
            rw [hQ]
            refine W.widen (k := 2) (n := 10) (Nat.le_of_ble_eq_true rfl) (Nat.le_of_ble_eq_true rfl) ?_
            exact W.aret (v := .ref z) hx hb hr (Or.inl ⟨_, rfl⟩) (Or.inr ⟨_, rfl⟩) (fun t ht hW => ⟨⟨(some z), (b, [(z, .inr (3, [.int 0, .ref (aK 4), .long 0, .ref (aK 0), .ref x11, .int 0, .int 1])), (x11, .inr (14, [.ref em, .int 0, .int 0]))]), rfl, ⟨by omega, by omega, Or.inr ⟨_, rfl, hsm, by rw [hwk]; exact VT.scalar (a := z) (tx := aK 4) (nm := aK 0) (pa := x11) (mo := 0) (tt := (LTx.getD 4 [])) (nn := []) List.mem_cons_self (Or.inr ⟨4, by decide, rfl, rfl⟩) (Or.inr ⟨0, by decide, rfl, rfl⟩) (List.mem_cons_of_mem _ List.mem_cons_self) (Or.inl ⟨rfl, by decide, rfl, rfl, rfl, rfl⟩) (by decide)⟩⟩, ⟨by rw [ht]; exact hP9, va_K.moved hW.alike hK9, hD9⟩⟩, hS.F ht⟩) hS.2.2 d_CU_word_71
          · have h5 : j < (LTx.getD 4 []).length := Nat.not_le.mp (fun h => h5 ((nI_leI (by omega) (by omega)).mpr h))
            refine lv_aload_n hx hb d_CU_word_41 rfl (lv_at hl 2 rfl) ?_
            refine lv_aload_n hx hb d_CU_word_42 rfl (lv_at hl 1 rfl) ?_
            refine lv_iload_n hx hb d_CU_word_43 rfl (lv_at hl 0 rfl) ?_
            have hcj := hSV_a.2.2.2.lt j
            have hPc : va_P (dC, dI) vwCl [] _ := hP.sub (ws' := []) [] rfl
            have hKc := hK.sub (tys' := []) [] rfl
            refine vp_callSi (W.runV (As := [.int (nI j)]) (rest := [.ref x]) ⟨hx, hb, hml, hown, htb⟩ (q_ST_charAt l dC dI (aK 4) v9 (LTx.getD 4 []) em aK aV A j h5) (cwV 1 htb (g_V (fun _ h => h) m_460 m_457 m_458 m_459 m_4) rfl rfl rfl (by decide +kernel) ⟨Nat.le_of_ble_eq_true rfl, Nat.le_of_ble_eq_true rfl⟩) ⟨fun a U g mk q => by obtain ⟨q0, qP, qK, z0, z1⟩ := q; exact ⟨q0, qP, va_K.moved (u := U) (U := U.calling g mk a) (Vm.Alike.refl U.vm) qK, EX.same (U := U) (U' := U.calling g mk a) rfl z0, SV.moved (Vm.Alike.refl U.vm) z1⟩, hSV_a.recv, fun U hU hW => ⟨rfl, by rw [hU]; exact hPc, va_K.moved hW.alike hKc, by rw [hU]; exact EX.warm hW (hE.kept (fun a h1 h2 => hS.2.1 a h1 h2)), by rw [hU]; exact SV.moved hW.alike hSV_a⟩⟩ rfl rfl hl.1 rfl (lv_room (Nat.le_of_ble_eq_true rfl)) d_CU_word_44 ⟨Nat.le_of_ble_eq_true rfl, Nat.le_of_ble_eq_true rfl⟩) (fun r7 hw8 => ?_)
            have hw8 : r7 = nI ((LTx.getD 4 []).getD j 0) := hw8
            obtain rfl := hw8
            have hpos : 0 < (LTx.getD 4 []).getD j 0 := lit_pos 4 (by decide) j h5
            have hPc := hP.sub (ws' := [(x, .inr (1, [.ref dl, .int (nI L.length), .int (nI b), .ref sb])), (dl, .inl (cC, 160, .inl f))]) [0, 1] rfl
            have hDc := hD.sub (ws' := [(x, .inr (1, [.ref dl, .int (nI L.length), .int (nI b), .ref sb])), (dl, .inl (cC, 160, .inl f))]) [0, 1] (by decide) rfl
            have hFc := va_free (wc := [(x, .inr (1, [.ref dl, .int (nI L.length), .int (nI b), .ref sb])), (dl, .inl (cC, 160, .inl f))]) hD hS hA [0, 1] rfl
            have hKc := hK.sub (tys' := [(cC, .char)]) [0] rfl
            refine va_calli (va_runV (As := [.int (nI ((LTx.getD 4 []).getD j 0))]) (rest := []) ⟨hx, hb, hml, hown, htb⟩ (k_CU_took l dC dI _ x dl sb cC f L b ((LTx.getD 4 []).getD j 0) hL hi1 hpos (by omega)) (cwV 1 htb (g_V (fun _ h => h) m_435 m_432 m_433 m_434 m_10) rfl rfl rfl (by decide +kernel) ⟨Nat.le_of_ble_eq_true rfl, Nat.le_of_ble_eq_true rfl⟩) ⟨fun a U g mk q => by obtain ⟨q0, q1, qP, qK, qD⟩ := q; exact ⟨q0, q1, qP, va_K.moved (u := U) (U := U.calling g mk a) (Vm.Alike.refl U.vm) qK, qD⟩, va_recv hK hP (ci := 1) rfl (q0 := 0) rfl, fun U hU hW => ⟨rfl, by rw [hU], by rw [hU]; exact hPc, va_K.moved hW.alike hKc, hDc.weaken (fun _ _ _ _ => trivial)⟩⟩ rfl rfl hl.1 rfl (lv_room (Nat.le_of_ble_eq_true rfl)) d_CU_word_47 ⟨Nat.le_of_ble_eq_true rfl, Nat.le_of_ble_eq_true rfl⟩) hS (fun q _ h => hFc q h) hFc (fun r10 u9 t H1 locs ht hvm hw11 hB hz1 hk1 hS => ?_)
            obtain ⟨hP1, hK1, hD1⟩ := hB
            rw [ht] at hP1
            have hK1 := va_K.moved hvm.symm hK1
            have hw11 : (r10 = 1 ∧ L.getD b 0 = ((LTx.getD 4 []).getD j 0) ∧ b < L.length ∧ u9 = b + 1) ∨ (r10 = 0 ∧ L.getD b 0 ≠ ((LTx.getD 4 []).getD j 0) ∧ u9 = b) := hw11
            obtain ⟨hP, hD⟩ := zz_joinN (pre := [(x, .inr (1, [.ref dl, .int (nI L.length), .int (nI b), .ref sb])), (dl, .inl (cC, 160, .inl f))]) (fz := fz) (wc := [(x, .inr (1, [.ref dl, .int (nI L.length), .int (nI b), .ref sb])), (dl, .inl (cC, 160, .inl f))]) (wr := []) (w1 := [(x, .inr (1, [.ref dl, .int (nI L.length), .int (nI u9), .ref sb])), (dl, .inl (cC, 160, .inl f))]) hP hD [0, 1] [] rfl rfl (by decide) (by decide) hk1 hFc hP1 hD1
            have hK := (hK.sub (tys' := [(cB, .byte)]) [1] rfl).app hK1
            generalize H1 = H at hP hS ⊢
            have hP : va_P (dC, dI) vwCl ([(x, .inr (1, [.ref dl, .int (nI L.length), .int (nI u9), .ref sb])), (dl, .inl (cC, 160, .inl f))] ++ fz) H := hP
            have hD : va_D A ([(x, .inr (1, [.ref dl, .int (nI L.length), .int (nI u9), .ref sb])), (dl, .inl (cC, 160, .inl f))] ++ fz) := hD
            have hK : va_K (dC, dI) vwCl [(cB, .byte), (cC, .char)] s := hK
            rcases hw11 with ⟨rfl, g1, g2, hab⟩ | ⟨rfl, g1, hab⟩
            · rw [hab] at hP hD
              have hP : va_P (dC, dI) vwCl ([(x, .inr (1, [.ref dl, .int (nI L.length), .int (nI (b + 1)), .ref sb])), (dl, .inl (cC, 160, .inl f))] ++ fz) H := hP
              have hD : va_D A ([(x, .inr (1, [.ref dl, .int (nI L.length), .int (nI (b + 1)), .ref sb])), (dl, .inl (cC, 160, .inl f))] ++ fz) := hD
              refine lv_if_ne (tgt := 55) hx hb d_CU_word_50 rfl (fun _ => ?_) (fun h9 => absurd h9 (by decide))
              refine lv_iinc (k := 0) (v := ((nI j) + Int32.ofInt 1)) hx hb d_CU_word_55 hl rfl rfl (by decide) rfl (fun ls hl => ?_)
              have hl : lv_has ls 3 [(2, .int ((nI j) + Int32.ofInt 1)), (1, .ref (aK 4)), (0, .ref x)] := hl
              rw [show nI j + Int32.ofInt 1 = nI (j + 1) from nI_1 _] at hl
              refine lv_goto (tgt := 33) hx hb d_CU_word_58 rfl ?_
              exact ih (5 - (j + 1)) (by omega) (j + 1) (b + 1) H locs ls rfl (by omega) (by omega) (by rw [hi2, drop_cons h5, drop_cons g2]; simp only [pfx]; rw [if_pos g1]) (by omega) (lv_sub hl [0, 1, 2] rfl) (zz_pickP (pre := [(x, .inr (1, [.ref dl, .int (nI L.length), .int (nI (b + 1)), .ref sb])), (dl, .inl (cC, 160, .inl f))]) (fz := fz) (wc := [(x, .inr (1, [.ref dl, .int (nI L.length), .int (nI (b + 1)), .ref sb])), (dl, .inl (cC, 160, .inl f))]) hP [0, 1] rfl) (zz_pickD (pre := [(x, .inr (1, [.ref dl, .int (nI L.length), .int (nI (b + 1)), .ref sb])), (dl, .inl (cC, 160, .inl f))]) (fz := fz) (wc := [(x, .inr (1, [.ref dl, .int (nI L.length), .int (nI (b + 1)), .ref sb])), (dl, .inl (cC, 160, .inl f))]) hD [0, 1] (by decide) rfl) hS
            · rw [hab] at hP hD
              have hP : va_P (dC, dI) vwCl ([(x, .inr (1, [.ref dl, .int (nI L.length), .int (nI b), .ref sb])), (dl, .inl (cC, 160, .inl f))] ++ fz) H := hP
              have hD : va_D A ([(x, .inr (1, [.ref dl, .int (nI L.length), .int (nI b), .ref sb])), (dl, .inl (cC, 160, .inl f))] ++ fz) := hD
              refine lv_if_ne (tgt := 55) hx hb d_CU_word_50 rfl (fun h9 => absurd (rfl) h9) (fun _ => ?_)
              refine lv_null hx hb d_CU_word_53 ?_
              have hno : wrd (L.drop a) = none := by
                rw [hwr, hi2, drop_cons h5]
                by_cases h7 : b < L.length
                · rw [drop_cons h7]; simp only [pfx]; rw [if_neg g1]
                · rw [show L.drop b = [] from List.drop_eq_nil_of_le (by omega)]; rfl
              have hP9 := zz_pickP (pre := [(x, .inr (1, [.ref dl, .int (nI L.length), .int (nI b), .ref sb])), (dl, .inl (cC, 160, .inl f))]) (fz := fz) (wc := [(x, .inr (1, [.ref dl, .int (nI L.length), .int (nI b), .ref sb])), (dl, .inl (cC, 160, .inl f))]) hP [0, 1] rfl
              have hD9 := zz_pickD (pre := [(x, .inr (1, [.ref dl, .int (nI L.length), .int (nI b), .ref sb])), (dl, .inl (cC, 160, .inl f))]) (fz := fz) (wc := [(x, .inr (1, [.ref dl, .int (nI L.length), .int (nI b), .ref sb])), (dl, .inl (cC, 160, .inl f))]) hD [0, 1] (by decide) rfl
              have hK9 := hK.sub (tys' := [(cC, .char), (cB, .byte)]) [1, 0] rfl
              rw [hQ]
              refine W.widen (k := 2) (n := 10) (Nat.le_of_ble_eq_true rfl) (Nat.le_of_ble_eq_true rfl) ?_
              exact W.aret (v := .null) hx hb hr (Or.inl ⟨_, rfl⟩) (Or.inl rfl) (fun t ht hW => ⟨⟨none, (b, []), rfl, ⟨by omega, by omega, Or.inl ⟨rfl, hno, rfl⟩⟩, ⟨by rw [ht]; exact hP9, va_K.moved hW.alike hK9, hD9⟩⟩, hS.F ht⟩) hS.2.2 d_CU_word_54
      exact hloop _ 0 a _ _ ls rfl (Nat.le_refl _) (ha) (rfl) (Nat.zero_le _) (lv_sub hl [0, 1, 2] rfl) (zz_pickP (pre := [(x, .inr (1, [.ref dl, .int (nI L.length), .int (nI a), .ref sb])), (dl, .inl (cC, 160, .inl f))]) (fz := fz) (wc := [(x, .inr (1, [.ref dl, .int (nI L.length), .int (nI a), .ref sb])), (dl, .inl (cC, 160, .inl f))]) hP [0, 1] rfl) (zz_pickD (pre := [(x, .inr (1, [.ref dl, .int (nI L.length), .int (nI a), .ref sb])), (dl, .inl (cC, 160, .inl f))]) (fz := fz) (wc := [(x, .inr (1, [.ref dl, .int (nI L.length), .int (nI a), .ref sb])), (dl, .inl (cC, 160, .inl f))]) hD [0, 1] (by decide) rfl) hS
    · have h2 : L.getD a 0 = 116 := (nI_eq (by omega) (by decide)).mp h2
      refine va_ldcS hx hb hown (lr_3 hE) d_CU_word_23 ?_
      have hwk : wrdK (L.drop a) = 1 := by unfold wrdK; rw [hhd, if_neg h1, if_pos h2]
      have hwr : wrd (L.drop a) = pfx (LTx.getD 3 []) (L.drop a) := by unfold wrd; rw [hwk]
      have htx : TX cB aK fz (aK 3) (LTx.getD 3 []) := Or.inr ⟨3, by decide, rfl, rfl⟩
      have hTl : (LTx.getD 3 []).length = 4 := by decide
      refine lv_goto (tgt := 30) hx hb d_CU_word_25 rfl ?_
      refine lv_astore_n hx hb d_CU_word_30 rfl hl (by decide) rfl (fun ls hl => ?_)
      have hl : lv_has ls 3 [(1, .ref (aK 3)), (0, .ref x)] := hl
      refine lv_iconst (v := 0) hx hb d_CU_word_31 (by decide) ?_
      refine lv_istore_n hx hb d_CU_word_32 rfl hl (by decide) rfl (fun ls hl => ?_)
      have hl : lv_has ls 3 [(2, .int 0), (1, .ref (aK 3)), (0, .ref x)] := hl
      have hloop : ∀ (k9 : Nat) (j : Nat) (b : Nat) (H : Heap) (locs : List Loc) (ls : Array Slot), 4 - j = k9 → a ≤ b → b ≤ L.length → pfx (LTx.getD 3 []) (L.drop a) = pfx (List.drop j (LTx.getD 3 [])) (L.drop b) → j ≤ 4 → lv_has ls 3 [(2, .int (nI j)), (1, .ref (aK 3)), (0, .ref x)] → va_P (dC, dI) vwCl ([(x, .inr (1, [.ref dl, .int (nI L.length), .int (nI b), .ref sb])), (dl, .inl (cC, 160, .inl f))] ++ fz) H → va_D A ([(x, .inr (1, [.ref dl, .int (nI L.length), .int (nI b), .ref sb])), (dl, .inl (cC, 160, .inl f))] ++ fz) → va_S A s.heap H locs → W p l e (headSpec ws_CU_word ({ frames := 5, cells := 2, slots := 10, locals := 96 })).room s m args below meth c H locs 0 0 Q (F0 m 33 ls []) := by
        intro k9
        induction k9 using Nat.strongRecOn with
        | ind k9 ih =>
          intro j b H locs ls hk9 hi0 hi1 hi2 hi3 hl hP hD hS
          refine lv_iload_n hx hb d_CU_word_33 rfl (lv_at hl 0 rfl) ?_
          refine lv_aload_n hx hb d_CU_word_34 rfl (lv_at hl 1 rfl) ?_
          obtain ⟨v9, hSV_a⟩ := htx.sv htb hE (fun q h1 h2 => hS.2.1 q h1 h2) hK hP (fun q hq => List.mem_append_right _ hq) 1 rfl
          have hPc : va_P (dC, dI) vwCl [] _ := hP.sub (ws' := []) [] rfl
          have hKc := hK.sub (tys' := []) [] rfl
          refine vp_callSi (W.runV (As := []) (rest := [.int (nI j)]) ⟨hx, hb, hml, hown, htb⟩ (q_ST_length l dC dI (aK 3) v9 (LTx.getD 3 []) em aK aV A ) (cwV 0 htb (g_V (fun _ h => h) m_452 m_449 m_450 m_451 m_4) rfl rfl rfl (by decide +kernel) ⟨Nat.le_of_ble_eq_true rfl, Nat.le_of_ble_eq_true rfl⟩) ⟨fun a U g mk q => by obtain ⟨q0, qP, qK, z0, z1⟩ := q; exact ⟨q0, qP, va_K.moved (u := U) (U := U.calling g mk a) (Vm.Alike.refl U.vm) qK, EX.same (U := U) (U' := U.calling g mk a) rfl z0, SV.moved (Vm.Alike.refl U.vm) z1⟩, hSV_a.recv, fun U hU hW => ⟨rfl, by rw [hU]; exact hPc, va_K.moved hW.alike hKc, by rw [hU]; exact EX.warm hW (hE.kept (fun a h1 h2 => hS.2.1 a h1 h2)), by rw [hU]; exact SV.moved hW.alike hSV_a⟩⟩ rfl rfl hl.1 rfl (lv_room (Nat.le_of_ble_eq_true rfl)) d_CU_word_35 ⟨Nat.le_of_ble_eq_true rfl, Nat.le_of_ble_eq_true rfl⟩) (fun r5 hw6 => ?_)
          have hw6 : r5 = nI (LTx.getD 3 []).length := hw6
          obtain rfl : r5 = nI (LTx.getD 3 []).length := hw6
          refine lv_icmp_ge (tgt := 61) hx hb d_CU_word_38 rfl (fun h5 => ?_) (fun h5 => ?_)
          · have h5 : (LTx.getD 3 []).length ≤ j := (nI_leI (by omega) (by omega)).mp h5
            have hsm : wrd (L.drop a) = some (L.drop b) := by rw [hwr, hi2, List.drop_eq_nil_of_le h5]; rfl
            refine va_new (ci := 3) (fs := [.int 0, .null, .long 0, .null, .null, .int 0, .int 0]) (C := R_VA) (T := T_VA) (N := 7) hx hb htb in_VA ty_VA ty_VA_ok hown (htb _ m_436) (htb _ m_370) (htb _ m_18) hK hP hD hS hA rfl (fun j hj => by rcases (show j = 0 ∨ j = 1 ∨ j = 2 ∨ j = 3 ∨ j = 4 ∨ j = 5 ∨ j = 6 by omega) with rfl | rfl | rfl | rfl | rfl | rfl | rfl <;> rfl) (Nat.le_of_ble_eq_true rfl) (Nat.le_of_ble_eq_true rfl) d_CU_word_61 (fun z H hP hD hS => ?_)
            have hP := zz_rotP (pre := [(x, .inr (1, [.ref dl, .int (nI L.length), .int (nI b), .ref sb])), (dl, .inl (cC, 160, .inl f))]) (fz := fz) hP
            have hD := zz_rotD (pre := [(x, .inr (1, [.ref dl, .int (nI L.length), .int (nI b), .ref sb])), (dl, .inl (cC, 160, .inl f))]) (fz := fz) hD
            have hP : va_P (dC, dI) vwCl ([(x, .inr (1, [.ref dl, .int (nI L.length), .int (nI b), .ref sb])), (dl, .inl (cC, 160, .inl f)), (z, .inr (3, [.int 0, .null, .long 0, .null, .null, .int 0, .int 0]))] ++ fz) H := hP
            have hD : va_D A ([(x, .inr (1, [.ref dl, .int (nI L.length), .int (nI b), .ref sb])), (dl, .inl (cC, 160, .inl f)), (z, .inr (3, [.int 0, .null, .long 0, .null, .null, .int 0, .int 0]))] ++ fz) := hD
            refine W.widen (k := 1) (n := 7) (Nat.le_of_ble_eq_true rfl) (Nat.le_of_ble_eq_true rfl) ?_
            refine lv_dup hx hb d_CU_word_64 rfl ?_
            refine lv_iconst (v := 0) hx hb d_CU_word_65 (by decide) ?_
            refine lv_aload_n hx hb d_CU_word_66 rfl (lv_at hl 1 rfl) ?_
            refine lv_lconst (v := 0) hx hb d_CU_word_67 (by decide) ?_
            have hPc := hP.sub (ws' := [(z, .inr (3, [.int 0, .null, .long 0, .null, .null, .int 0, .int 0]))]) [2] rfl
            have hDc := hD.sub (ws' := [(z, .inr (3, [.int 0, .null, .long 0, .null, .null, .int 0, .int 0]))]) [2] (by decide) rfl
            have hFc := va_free (wc := [(z, .inr (3, [.int 0, .null, .long 0, .null, .null, .int 0, .int 0]))]) hD hS hA [2] rfl
            have hKc := hK.sub (tys' := []) [] rfl
            refine va_callv (va_runI (As := [.int 0, .ref (aK 3), .long 0]) (rest := [.ref z]) ⟨hx, hb, hml, hown, htb⟩ (k_VA_init l dC dI _ z 0 (aK 3) 0 em aK aV ) (cwI 3 htb (g_all (fun _ h => h) m_373) rfl rfl rfl (htb _ m_18) (htb _ m_438) (htb _ m_372) rfl (by decide +kernel) ⟨Nat.le_of_ble_eq_true rfl, Nat.le_of_ble_eq_true rfl⟩) ⟨fun a U g mk q => by obtain ⟨q0, q1, qP, qK, qD, z0⟩ := q; exact ⟨q0, q1, qP, va_K.moved (u := U) (U := U.calling g mk a) (Vm.Alike.refl U.vm) qK, qD, EX.same (U := U) (U' := U.calling g mk a) rfl z0⟩, fun U hU hW => ⟨rfl, by rw [hU], by rw [hU]; exact hPc, va_K.moved hW.alike hKc, hDc.weaken (fun _ _ _ _ => trivial), by rw [hU]; exact EX.warm hW ((hE.kept (fun a h1 h2 => hS.2.1 a h1 h2)).narrow hFc)⟩⟩ rfl rfl hl.1 rfl (lv_room (Nat.le_of_ble_eq_true rfl)) d_CU_word_68 ⟨Nat.le_of_ble_eq_true rfl, Nat.le_of_ble_eq_true rfl⟩) hS (fun q _ h => hFc q h) hFc (fun u7 t H1 locs ht hvm hw9 hB hz1 hk1 hS => ?_)
            obtain ⟨x11, hP1, hK1, hD1⟩ := hB
            rw [ht] at hP1
            have hK1 := va_K.moved hvm.symm hK1
            have hw9 : True := hw9
            obtain ⟨hP, hD⟩ := zz_joinN (pre := [(x, .inr (1, [.ref dl, .int (nI L.length), .int (nI b), .ref sb])), (dl, .inl (cC, 160, .inl f)), (z, .inr (3, [.int 0, .null, .long 0, .null, .null, .int 0, .int 0]))]) (fz := fz) (wc := [(z, .inr (3, [.int 0, .null, .long 0, .null, .null, .int 0, .int 0]))]) (wr := [(x, .inr (1, [.ref dl, .int (nI L.length), .int (nI b), .ref sb])), (dl, .inl (cC, 160, .inl f))]) (w1 := [(z, .inr (3, [.int 0, .ref (aK 3), .long 0, .ref (aK 0), .ref x11, .int 0, .int 1])), (x11, .inr (14, [.ref em, .int 0, .int 0]))]) hP hD [2] [0, 1] rfl rfl (by decide) (by decide) hk1 hFc hP1 hD1
            have hK := (hK.sub (tys' := [(cC, .char), (cB, .byte)]) [0, 1] rfl).app hK1
            generalize H1 = H at hP hS ⊢
            have hP : va_P (dC, dI) vwCl ([(x, .inr (1, [.ref dl, .int (nI L.length), .int (nI b), .ref sb])), (dl, .inl (cC, 160, .inl f)), (z, .inr (3, [.int 0, .ref (aK 3), .long 0, .ref (aK 0), .ref x11, .int 0, .int 1])), (x11, .inr (14, [.ref em, .int 0, .int 0]))] ++ fz) H := hP
            have hD : va_D A ([(x, .inr (1, [.ref dl, .int (nI L.length), .int (nI b), .ref sb])), (dl, .inl (cC, 160, .inl f)), (z, .inr (3, [.int 0, .ref (aK 3), .long 0, .ref (aK 0), .ref x11, .int 0, .int 1])), (x11, .inr (14, [.ref em, .int 0, .int 0]))] ++ fz) := hD
            have hK : va_K (dC, dI) vwCl [(cC, .char), (cB, .byte)] s := hK
            refine W.widen (k := 2) (n := 10) (Nat.le_of_ble_eq_true rfl) (Nat.le_of_ble_eq_true rfl) ?_
            have hP9 := zz_pickP (pre := [(x, .inr (1, [.ref dl, .int (nI L.length), .int (nI b), .ref sb])), (dl, .inl (cC, 160, .inl f)), (z, .inr (3, [.int 0, .ref (aK 3), .long 0, .ref (aK 0), .ref x11, .int 0, .int 1])), (x11, .inr (14, [.ref em, .int 0, .int 0]))]) (fz := fz) (wc := [(x, .inr (1, [.ref dl, .int (nI L.length), .int (nI b), .ref sb])), (dl, .inl (cC, 160, .inl f)), (z, .inr (3, [.int 0, .ref (aK 3), .long 0, .ref (aK 0), .ref x11, .int 0, .int 1])), (x11, .inr (14, [.ref em, .int 0, .int 0]))]) hP [0, 1, 2, 3] rfl
            have hD9 := zz_pickD (pre := [(x, .inr (1, [.ref dl, .int (nI L.length), .int (nI b), .ref sb])), (dl, .inl (cC, 160, .inl f)), (z, .inr (3, [.int 0, .ref (aK 3), .long 0, .ref (aK 0), .ref x11, .int 0, .int 1])), (x11, .inr (14, [.ref em, .int 0, .int 0]))]) (fz := fz) (wc := [(x, .inr (1, [.ref dl, .int (nI L.length), .int (nI b), .ref sb])), (dl, .inl (cC, 160, .inl f)), (z, .inr (3, [.int 0, .ref (aK 3), .long 0, .ref (aK 0), .ref x11, .int 0, .int 1])), (x11, .inr (14, [.ref em, .int 0, .int 0]))]) hD [0, 1, 2, 3] (by decide) rfl
            have hK9 := hK.sub (tys' := [(cC, .char), (cB, .byte)]) [0, 1] rfl
            rw [hQ]
            refine W.widen (k := 2) (n := 10) (Nat.le_of_ble_eq_true rfl) (Nat.le_of_ble_eq_true rfl) ?_
            exact W.aret (v := .ref z) hx hb hr (Or.inl ⟨_, rfl⟩) (Or.inr ⟨_, rfl⟩) (fun t ht hW => ⟨⟨(some z), (b, [(z, .inr (3, [.int 0, .ref (aK 3), .long 0, .ref (aK 0), .ref x11, .int 0, .int 1])), (x11, .inr (14, [.ref em, .int 0, .int 0]))]), rfl, ⟨by omega, by omega, Or.inr ⟨_, rfl, hsm, by rw [hwk]; exact VT.scalar (a := z) (tx := aK 3) (nm := aK 0) (pa := x11) (mo := 0) (tt := (LTx.getD 3 [])) (nn := []) List.mem_cons_self (Or.inr ⟨3, by decide, rfl, rfl⟩) (Or.inr ⟨0, by decide, rfl, rfl⟩) (List.mem_cons_of_mem _ List.mem_cons_self) (Or.inl ⟨rfl, by decide, rfl, rfl, rfl, rfl⟩) (by decide)⟩⟩, ⟨by rw [ht]; exact hP9, va_K.moved hW.alike hK9, hD9⟩⟩, hS.F ht⟩) hS.2.2 d_CU_word_71
          · have h5 : j < (LTx.getD 3 []).length := Nat.not_le.mp (fun h => h5 ((nI_leI (by omega) (by omega)).mpr h))
            refine lv_aload_n hx hb d_CU_word_41 rfl (lv_at hl 2 rfl) ?_
            refine lv_aload_n hx hb d_CU_word_42 rfl (lv_at hl 1 rfl) ?_
            refine lv_iload_n hx hb d_CU_word_43 rfl (lv_at hl 0 rfl) ?_
            have hcj := hSV_a.2.2.2.lt j
            have hPc : va_P (dC, dI) vwCl [] _ := hP.sub (ws' := []) [] rfl
            have hKc := hK.sub (tys' := []) [] rfl
            refine vp_callSi (W.runV (As := [.int (nI j)]) (rest := [.ref x]) ⟨hx, hb, hml, hown, htb⟩ (q_ST_charAt l dC dI (aK 3) v9 (LTx.getD 3 []) em aK aV A j h5) (cwV 1 htb (g_V (fun _ h => h) m_460 m_457 m_458 m_459 m_4) rfl rfl rfl (by decide +kernel) ⟨Nat.le_of_ble_eq_true rfl, Nat.le_of_ble_eq_true rfl⟩) ⟨fun a U g mk q => by obtain ⟨q0, qP, qK, z0, z1⟩ := q; exact ⟨q0, qP, va_K.moved (u := U) (U := U.calling g mk a) (Vm.Alike.refl U.vm) qK, EX.same (U := U) (U' := U.calling g mk a) rfl z0, SV.moved (Vm.Alike.refl U.vm) z1⟩, hSV_a.recv, fun U hU hW => ⟨rfl, by rw [hU]; exact hPc, va_K.moved hW.alike hKc, by rw [hU]; exact EX.warm hW (hE.kept (fun a h1 h2 => hS.2.1 a h1 h2)), by rw [hU]; exact SV.moved hW.alike hSV_a⟩⟩ rfl rfl hl.1 rfl (lv_room (Nat.le_of_ble_eq_true rfl)) d_CU_word_44 ⟨Nat.le_of_ble_eq_true rfl, Nat.le_of_ble_eq_true rfl⟩) (fun r7 hw8 => ?_)
            have hw8 : r7 = nI ((LTx.getD 3 []).getD j 0) := hw8
            obtain rfl := hw8
            have hpos : 0 < (LTx.getD 3 []).getD j 0 := lit_pos 3 (by decide) j h5
            have hPc := hP.sub (ws' := [(x, .inr (1, [.ref dl, .int (nI L.length), .int (nI b), .ref sb])), (dl, .inl (cC, 160, .inl f))]) [0, 1] rfl
            have hDc := hD.sub (ws' := [(x, .inr (1, [.ref dl, .int (nI L.length), .int (nI b), .ref sb])), (dl, .inl (cC, 160, .inl f))]) [0, 1] (by decide) rfl
            have hFc := va_free (wc := [(x, .inr (1, [.ref dl, .int (nI L.length), .int (nI b), .ref sb])), (dl, .inl (cC, 160, .inl f))]) hD hS hA [0, 1] rfl
            have hKc := hK.sub (tys' := [(cC, .char)]) [0] rfl
            refine va_calli (va_runV (As := [.int (nI ((LTx.getD 3 []).getD j 0))]) (rest := []) ⟨hx, hb, hml, hown, htb⟩ (k_CU_took l dC dI _ x dl sb cC f L b ((LTx.getD 3 []).getD j 0) hL hi1 hpos (by omega)) (cwV 1 htb (g_V (fun _ h => h) m_435 m_432 m_433 m_434 m_10) rfl rfl rfl (by decide +kernel) ⟨Nat.le_of_ble_eq_true rfl, Nat.le_of_ble_eq_true rfl⟩) ⟨fun a U g mk q => by obtain ⟨q0, q1, qP, qK, qD⟩ := q; exact ⟨q0, q1, qP, va_K.moved (u := U) (U := U.calling g mk a) (Vm.Alike.refl U.vm) qK, qD⟩, va_recv hK hP (ci := 1) rfl (q0 := 0) rfl, fun U hU hW => ⟨rfl, by rw [hU], by rw [hU]; exact hPc, va_K.moved hW.alike hKc, hDc.weaken (fun _ _ _ _ => trivial)⟩⟩ rfl rfl hl.1 rfl (lv_room (Nat.le_of_ble_eq_true rfl)) d_CU_word_47 ⟨Nat.le_of_ble_eq_true rfl, Nat.le_of_ble_eq_true rfl⟩) hS (fun q _ h => hFc q h) hFc (fun r10 u9 t H1 locs ht hvm hw11 hB hz1 hk1 hS => ?_)
            obtain ⟨hP1, hK1, hD1⟩ := hB
            rw [ht] at hP1
            have hK1 := va_K.moved hvm.symm hK1
            have hw11 : (r10 = 1 ∧ L.getD b 0 = ((LTx.getD 3 []).getD j 0) ∧ b < L.length ∧ u9 = b + 1) ∨ (r10 = 0 ∧ L.getD b 0 ≠ ((LTx.getD 3 []).getD j 0) ∧ u9 = b) := hw11
            obtain ⟨hP, hD⟩ := zz_joinN (pre := [(x, .inr (1, [.ref dl, .int (nI L.length), .int (nI b), .ref sb])), (dl, .inl (cC, 160, .inl f))]) (fz := fz) (wc := [(x, .inr (1, [.ref dl, .int (nI L.length), .int (nI b), .ref sb])), (dl, .inl (cC, 160, .inl f))]) (wr := []) (w1 := [(x, .inr (1, [.ref dl, .int (nI L.length), .int (nI u9), .ref sb])), (dl, .inl (cC, 160, .inl f))]) hP hD [0, 1] [] rfl rfl (by decide) (by decide) hk1 hFc hP1 hD1
            have hK := (hK.sub (tys' := [(cB, .byte)]) [1] rfl).app hK1
            generalize H1 = H at hP hS ⊢
            have hP : va_P (dC, dI) vwCl ([(x, .inr (1, [.ref dl, .int (nI L.length), .int (nI u9), .ref sb])), (dl, .inl (cC, 160, .inl f))] ++ fz) H := hP
            have hD : va_D A ([(x, .inr (1, [.ref dl, .int (nI L.length), .int (nI u9), .ref sb])), (dl, .inl (cC, 160, .inl f))] ++ fz) := hD
            have hK : va_K (dC, dI) vwCl [(cB, .byte), (cC, .char)] s := hK
            rcases hw11 with ⟨rfl, g1, g2, hab⟩ | ⟨rfl, g1, hab⟩
            · rw [hab] at hP hD
              have hP : va_P (dC, dI) vwCl ([(x, .inr (1, [.ref dl, .int (nI L.length), .int (nI (b + 1)), .ref sb])), (dl, .inl (cC, 160, .inl f))] ++ fz) H := hP
              have hD : va_D A ([(x, .inr (1, [.ref dl, .int (nI L.length), .int (nI (b + 1)), .ref sb])), (dl, .inl (cC, 160, .inl f))] ++ fz) := hD
              refine lv_if_ne (tgt := 55) hx hb d_CU_word_50 rfl (fun _ => ?_) (fun h9 => absurd h9 (by decide))
              refine lv_iinc (k := 0) (v := ((nI j) + Int32.ofInt 1)) hx hb d_CU_word_55 hl rfl rfl (by decide) rfl (fun ls hl => ?_)
              have hl : lv_has ls 3 [(2, .int ((nI j) + Int32.ofInt 1)), (1, .ref (aK 3)), (0, .ref x)] := hl
              rw [show nI j + Int32.ofInt 1 = nI (j + 1) from nI_1 _] at hl
              refine lv_goto (tgt := 33) hx hb d_CU_word_58 rfl ?_
              exact ih (4 - (j + 1)) (by omega) (j + 1) (b + 1) H locs ls rfl (by omega) (by omega) (by rw [hi2, drop_cons h5, drop_cons g2]; simp only [pfx]; rw [if_pos g1]) (by omega) (lv_sub hl [0, 1, 2] rfl) (zz_pickP (pre := [(x, .inr (1, [.ref dl, .int (nI L.length), .int (nI (b + 1)), .ref sb])), (dl, .inl (cC, 160, .inl f))]) (fz := fz) (wc := [(x, .inr (1, [.ref dl, .int (nI L.length), .int (nI (b + 1)), .ref sb])), (dl, .inl (cC, 160, .inl f))]) hP [0, 1] rfl) (zz_pickD (pre := [(x, .inr (1, [.ref dl, .int (nI L.length), .int (nI (b + 1)), .ref sb])), (dl, .inl (cC, 160, .inl f))]) (fz := fz) (wc := [(x, .inr (1, [.ref dl, .int (nI L.length), .int (nI (b + 1)), .ref sb])), (dl, .inl (cC, 160, .inl f))]) hD [0, 1] (by decide) rfl) hS
            · rw [hab] at hP hD
              have hP : va_P (dC, dI) vwCl ([(x, .inr (1, [.ref dl, .int (nI L.length), .int (nI b), .ref sb])), (dl, .inl (cC, 160, .inl f))] ++ fz) H := hP
              have hD : va_D A ([(x, .inr (1, [.ref dl, .int (nI L.length), .int (nI b), .ref sb])), (dl, .inl (cC, 160, .inl f))] ++ fz) := hD
              refine lv_if_ne (tgt := 55) hx hb d_CU_word_50 rfl (fun h9 => absurd (rfl) h9) (fun _ => ?_)
              refine lv_null hx hb d_CU_word_53 ?_
              have hno : wrd (L.drop a) = none := by
                rw [hwr, hi2, drop_cons h5]
                by_cases h7 : b < L.length
                · rw [drop_cons h7]; simp only [pfx]; rw [if_neg g1]
                · rw [show L.drop b = [] from List.drop_eq_nil_of_le (by omega)]; rfl
              have hP9 := zz_pickP (pre := [(x, .inr (1, [.ref dl, .int (nI L.length), .int (nI b), .ref sb])), (dl, .inl (cC, 160, .inl f))]) (fz := fz) (wc := [(x, .inr (1, [.ref dl, .int (nI L.length), .int (nI b), .ref sb])), (dl, .inl (cC, 160, .inl f))]) hP [0, 1] rfl
              have hD9 := zz_pickD (pre := [(x, .inr (1, [.ref dl, .int (nI L.length), .int (nI b), .ref sb])), (dl, .inl (cC, 160, .inl f))]) (fz := fz) (wc := [(x, .inr (1, [.ref dl, .int (nI L.length), .int (nI b), .ref sb])), (dl, .inl (cC, 160, .inl f))]) hD [0, 1] (by decide) rfl
              have hK9 := hK.sub (tys' := [(cC, .char), (cB, .byte)]) [1, 0] rfl
              rw [hQ]
              refine W.widen (k := 2) (n := 10) (Nat.le_of_ble_eq_true rfl) (Nat.le_of_ble_eq_true rfl) ?_
              exact W.aret (v := .null) hx hb hr (Or.inl ⟨_, rfl⟩) (Or.inl rfl) (fun t ht hW => ⟨⟨none, (b, []), rfl, ⟨by omega, by omega, Or.inl ⟨rfl, hno, rfl⟩⟩, ⟨by rw [ht]; exact hP9, va_K.moved hW.alike hK9, hD9⟩⟩, hS.F ht⟩) hS.2.2 d_CU_word_54
      exact hloop _ 0 a _ _ ls rfl (Nat.le_refl _) (ha) (rfl) (Nat.zero_le _) (lv_sub hl [0, 1, 2] rfl) (zz_pickP (pre := [(x, .inr (1, [.ref dl, .int (nI L.length), .int (nI a), .ref sb])), (dl, .inl (cC, 160, .inl f))]) (fz := fz) (wc := [(x, .inr (1, [.ref dl, .int (nI L.length), .int (nI a), .ref sb])), (dl, .inl (cC, 160, .inl f))]) hP [0, 1] rfl) (zz_pickD (pre := [(x, .inr (1, [.ref dl, .int (nI L.length), .int (nI a), .ref sb])), (dl, .inl (cC, 160, .inl f))]) (fz := fz) (wc := [(x, .inr (1, [.ref dl, .int (nI L.length), .int (nI a), .ref sb])), (dl, .inl (cC, 160, .inl f))]) hD [0, 1] (by decide) rfl) hS
  · have h1 : L.getD a 0 = 110 := (nI_eq (by omega) (by decide)).mp h1
    refine va_ldcS hx hb hown (lr_2 hE) d_CU_word_9 ?_
    have hwk : wrdK (L.drop a) = 0 := by unfold wrdK; rw [hhd, if_pos h1]
    have hwr : wrd (L.drop a) = pfx (LTx.getD 2 []) (L.drop a) := by unfold wrd; rw [hwk]
    have htx : TX cB aK fz (aK 2) (LTx.getD 2 []) := Or.inr ⟨2, by decide, rfl, rfl⟩
    have hTl : (LTx.getD 2 []).length = 4 := by decide
    refine lv_goto (tgt := 30) hx hb d_CU_word_11 rfl ?_
    refine lv_astore_n hx hb d_CU_word_30 rfl hl (by decide) rfl (fun ls hl => ?_)
    have hl : lv_has ls 3 [(1, .ref (aK 2)), (0, .ref x)] := hl
    refine lv_iconst (v := 0) hx hb d_CU_word_31 (by decide) ?_
    refine lv_istore_n hx hb d_CU_word_32 rfl hl (by decide) rfl (fun ls hl => ?_)
    have hl : lv_has ls 3 [(2, .int 0), (1, .ref (aK 2)), (0, .ref x)] := hl
    have hloop : ∀ (k9 : Nat) (j : Nat) (b : Nat) (H : Heap) (locs : List Loc) (ls : Array Slot), 4 - j = k9 → a ≤ b → b ≤ L.length → pfx (LTx.getD 2 []) (L.drop a) = pfx (List.drop j (LTx.getD 2 [])) (L.drop b) → j ≤ 4 → lv_has ls 3 [(2, .int (nI j)), (1, .ref (aK 2)), (0, .ref x)] → va_P (dC, dI) vwCl ([(x, .inr (1, [.ref dl, .int (nI L.length), .int (nI b), .ref sb])), (dl, .inl (cC, 160, .inl f))] ++ fz) H → va_D A ([(x, .inr (1, [.ref dl, .int (nI L.length), .int (nI b), .ref sb])), (dl, .inl (cC, 160, .inl f))] ++ fz) → va_S A s.heap H locs → W p l e (headSpec ws_CU_word ({ frames := 5, cells := 2, slots := 10, locals := 96 })).room s m args below meth c H locs 0 0 Q (F0 m 33 ls []) := by
      intro k9
      induction k9 using Nat.strongRecOn with
      | ind k9 ih =>
        intro j b H locs ls hk9 hi0 hi1 hi2 hi3 hl hP hD hS
        refine lv_iload_n hx hb d_CU_word_33 rfl (lv_at hl 0 rfl) ?_
        refine lv_aload_n hx hb d_CU_word_34 rfl (lv_at hl 1 rfl) ?_
        obtain ⟨v9, hSV_a⟩ := htx.sv htb hE (fun q h1 h2 => hS.2.1 q h1 h2) hK hP (fun q hq => List.mem_append_right _ hq) 1 rfl
        have hPc : va_P (dC, dI) vwCl [] _ := hP.sub (ws' := []) [] rfl
        have hKc := hK.sub (tys' := []) [] rfl
        refine vp_callSi (W.runV (As := []) (rest := [.int (nI j)]) ⟨hx, hb, hml, hown, htb⟩ (q_ST_length l dC dI (aK 2) v9 (LTx.getD 2 []) em aK aV A ) (cwV 0 htb (g_V (fun _ h => h) m_452 m_449 m_450 m_451 m_4) rfl rfl rfl (by decide +kernel) ⟨Nat.le_of_ble_eq_true rfl, Nat.le_of_ble_eq_true rfl⟩) ⟨fun a U g mk q => by obtain ⟨q0, qP, qK, z0, z1⟩ := q; exact ⟨q0, qP, va_K.moved (u := U) (U := U.calling g mk a) (Vm.Alike.refl U.vm) qK, EX.same (U := U) (U' := U.calling g mk a) rfl z0, SV.moved (Vm.Alike.refl U.vm) z1⟩, hSV_a.recv, fun U hU hW => ⟨rfl, by rw [hU]; exact hPc, va_K.moved hW.alike hKc, by rw [hU]; exact EX.warm hW (hE.kept (fun a h1 h2 => hS.2.1 a h1 h2)), by rw [hU]; exact SV.moved hW.alike hSV_a⟩⟩ rfl rfl hl.1 rfl (lv_room (Nat.le_of_ble_eq_true rfl)) d_CU_word_35 ⟨Nat.le_of_ble_eq_true rfl, Nat.le_of_ble_eq_true rfl⟩) (fun r3 hw4 => ?_)
        have hw4 : r3 = nI (LTx.getD 2 []).length := hw4
        obtain rfl : r3 = nI (LTx.getD 2 []).length := hw4
        refine lv_icmp_ge (tgt := 61) hx hb d_CU_word_38 rfl (fun h5 => ?_) (fun h5 => ?_)
        · have h5 : (LTx.getD 2 []).length ≤ j := (nI_leI (by omega) (by omega)).mp h5
          have hsm : wrd (L.drop a) = some (L.drop b) := by rw [hwr, hi2, List.drop_eq_nil_of_le h5]; rfl
          refine va_new (ci := 3) (fs := [.int 0, .null, .long 0, .null, .null, .int 0, .int 0]) (C := R_VA) (T := T_VA) (N := 7) hx hb htb in_VA ty_VA ty_VA_ok hown (htb _ m_436) (htb _ m_370) (htb _ m_18) hK hP hD hS hA rfl (fun j hj => by rcases (show j = 0 ∨ j = 1 ∨ j = 2 ∨ j = 3 ∨ j = 4 ∨ j = 5 ∨ j = 6 by omega) with rfl | rfl | rfl | rfl | rfl | rfl | rfl <;> rfl) (Nat.le_of_ble_eq_true rfl) (Nat.le_of_ble_eq_true rfl) d_CU_word_61 (fun z H hP hD hS => ?_)
          have hP := zz_rotP (pre := [(x, .inr (1, [.ref dl, .int (nI L.length), .int (nI b), .ref sb])), (dl, .inl (cC, 160, .inl f))]) (fz := fz) hP
          have hD := zz_rotD (pre := [(x, .inr (1, [.ref dl, .int (nI L.length), .int (nI b), .ref sb])), (dl, .inl (cC, 160, .inl f))]) (fz := fz) hD
          have hP : va_P (dC, dI) vwCl ([(x, .inr (1, [.ref dl, .int (nI L.length), .int (nI b), .ref sb])), (dl, .inl (cC, 160, .inl f)), (z, .inr (3, [.int 0, .null, .long 0, .null, .null, .int 0, .int 0]))] ++ fz) H := hP
          have hD : va_D A ([(x, .inr (1, [.ref dl, .int (nI L.length), .int (nI b), .ref sb])), (dl, .inl (cC, 160, .inl f)), (z, .inr (3, [.int 0, .null, .long 0, .null, .null, .int 0, .int 0]))] ++ fz) := hD
          refine W.widen (k := 1) (n := 7) (Nat.le_of_ble_eq_true rfl) (Nat.le_of_ble_eq_true rfl) ?_
          refine lv_dup hx hb d_CU_word_64 rfl ?_
          refine lv_iconst (v := 0) hx hb d_CU_word_65 (by decide) ?_
          refine lv_aload_n hx hb d_CU_word_66 rfl (lv_at hl 1 rfl) ?_
          refine lv_lconst (v := 0) hx hb d_CU_word_67 (by decide) ?_
          have hPc := hP.sub (ws' := [(z, .inr (3, [.int 0, .null, .long 0, .null, .null, .int 0, .int 0]))]) [2] rfl
          have hDc := hD.sub (ws' := [(z, .inr (3, [.int 0, .null, .long 0, .null, .null, .int 0, .int 0]))]) [2] (by decide) rfl
          have hFc := va_free (wc := [(z, .inr (3, [.int 0, .null, .long 0, .null, .null, .int 0, .int 0]))]) hD hS hA [2] rfl
          have hKc := hK.sub (tys' := []) [] rfl
          refine va_callv (va_runI (As := [.int 0, .ref (aK 2), .long 0]) (rest := [.ref z]) ⟨hx, hb, hml, hown, htb⟩ (k_VA_init l dC dI _ z 0 (aK 2) 0 em aK aV ) (cwI 3 htb (g_all (fun _ h => h) m_373) rfl rfl rfl (htb _ m_18) (htb _ m_438) (htb _ m_372) rfl (by decide +kernel) ⟨Nat.le_of_ble_eq_true rfl, Nat.le_of_ble_eq_true rfl⟩) ⟨fun a U g mk q => by obtain ⟨q0, q1, qP, qK, qD, z0⟩ := q; exact ⟨q0, q1, qP, va_K.moved (u := U) (U := U.calling g mk a) (Vm.Alike.refl U.vm) qK, qD, EX.same (U := U) (U' := U.calling g mk a) rfl z0⟩, fun U hU hW => ⟨rfl, by rw [hU], by rw [hU]; exact hPc, va_K.moved hW.alike hKc, hDc.weaken (fun _ _ _ _ => trivial), by rw [hU]; exact EX.warm hW ((hE.kept (fun a h1 h2 => hS.2.1 a h1 h2)).narrow hFc)⟩⟩ rfl rfl hl.1 rfl (lv_room (Nat.le_of_ble_eq_true rfl)) d_CU_word_68 ⟨Nat.le_of_ble_eq_true rfl, Nat.le_of_ble_eq_true rfl⟩) hS (fun q _ h => hFc q h) hFc (fun u5 t H1 locs ht hvm hw7 hB hz1 hk1 hS => ?_)
          obtain ⟨x9, hP1, hK1, hD1⟩ := hB
          rw [ht] at hP1
          have hK1 := va_K.moved hvm.symm hK1
          have hw7 : True := hw7
          obtain ⟨hP, hD⟩ := zz_joinN (pre := [(x, .inr (1, [.ref dl, .int (nI L.length), .int (nI b), .ref sb])), (dl, .inl (cC, 160, .inl f)), (z, .inr (3, [.int 0, .null, .long 0, .null, .null, .int 0, .int 0]))]) (fz := fz) (wc := [(z, .inr (3, [.int 0, .null, .long 0, .null, .null, .int 0, .int 0]))]) (wr := [(x, .inr (1, [.ref dl, .int (nI L.length), .int (nI b), .ref sb])), (dl, .inl (cC, 160, .inl f))]) (w1 := [(z, .inr (3, [.int 0, .ref (aK 2), .long 0, .ref (aK 0), .ref x9, .int 0, .int 1])), (x9, .inr (14, [.ref em, .int 0, .int 0]))]) hP hD [2] [0, 1] rfl rfl (by decide) (by decide) hk1 hFc hP1 hD1
          have hK := (hK.sub (tys' := [(cC, .char), (cB, .byte)]) [0, 1] rfl).app hK1
          generalize H1 = H at hP hS ⊢
          have hP : va_P (dC, dI) vwCl ([(x, .inr (1, [.ref dl, .int (nI L.length), .int (nI b), .ref sb])), (dl, .inl (cC, 160, .inl f)), (z, .inr (3, [.int 0, .ref (aK 2), .long 0, .ref (aK 0), .ref x9, .int 0, .int 1])), (x9, .inr (14, [.ref em, .int 0, .int 0]))] ++ fz) H := hP
          have hD : va_D A ([(x, .inr (1, [.ref dl, .int (nI L.length), .int (nI b), .ref sb])), (dl, .inl (cC, 160, .inl f)), (z, .inr (3, [.int 0, .ref (aK 2), .long 0, .ref (aK 0), .ref x9, .int 0, .int 1])), (x9, .inr (14, [.ref em, .int 0, .int 0]))] ++ fz) := hD
          have hK : va_K (dC, dI) vwCl [(cC, .char), (cB, .byte)] s := hK
          refine W.widen (k := 2) (n := 10) (Nat.le_of_ble_eq_true rfl) (Nat.le_of_ble_eq_true rfl) ?_
          have hP9 := zz_pickP (pre := [(x, .inr (1, [.ref dl, .int (nI L.length), .int (nI b), .ref sb])), (dl, .inl (cC, 160, .inl f)), (z, .inr (3, [.int 0, .ref (aK 2), .long 0, .ref (aK 0), .ref x9, .int 0, .int 1])), (x9, .inr (14, [.ref em, .int 0, .int 0]))]) (fz := fz) (wc := [(x, .inr (1, [.ref dl, .int (nI L.length), .int (nI b), .ref sb])), (dl, .inl (cC, 160, .inl f)), (z, .inr (3, [.int 0, .ref (aK 2), .long 0, .ref (aK 0), .ref x9, .int 0, .int 1])), (x9, .inr (14, [.ref em, .int 0, .int 0]))]) hP [0, 1, 2, 3] rfl
          have hD9 := zz_pickD (pre := [(x, .inr (1, [.ref dl, .int (nI L.length), .int (nI b), .ref sb])), (dl, .inl (cC, 160, .inl f)), (z, .inr (3, [.int 0, .ref (aK 2), .long 0, .ref (aK 0), .ref x9, .int 0, .int 1])), (x9, .inr (14, [.ref em, .int 0, .int 0]))]) (fz := fz) (wc := [(x, .inr (1, [.ref dl, .int (nI L.length), .int (nI b), .ref sb])), (dl, .inl (cC, 160, .inl f)), (z, .inr (3, [.int 0, .ref (aK 2), .long 0, .ref (aK 0), .ref x9, .int 0, .int 1])), (x9, .inr (14, [.ref em, .int 0, .int 0]))]) hD [0, 1, 2, 3] (by decide) rfl
          have hK9 := hK.sub (tys' := [(cC, .char), (cB, .byte)]) [0, 1] rfl
          rw [hQ]
          refine W.widen (k := 2) (n := 10) (Nat.le_of_ble_eq_true rfl) (Nat.le_of_ble_eq_true rfl) ?_
          exact W.aret (v := .ref z) hx hb hr (Or.inl ⟨_, rfl⟩) (Or.inr ⟨_, rfl⟩) (fun t ht hW => ⟨⟨(some z), (b, [(z, .inr (3, [.int 0, .ref (aK 2), .long 0, .ref (aK 0), .ref x9, .int 0, .int 1])), (x9, .inr (14, [.ref em, .int 0, .int 0]))]), rfl, ⟨by omega, by omega, Or.inr ⟨_, rfl, hsm, by rw [hwk]; exact VT.scalar (a := z) (tx := aK 2) (nm := aK 0) (pa := x9) (mo := 0) (tt := (LTx.getD 2 [])) (nn := []) List.mem_cons_self (Or.inr ⟨2, by decide, rfl, rfl⟩) (Or.inr ⟨0, by decide, rfl, rfl⟩) (List.mem_cons_of_mem _ List.mem_cons_self) (Or.inl ⟨rfl, by decide, rfl, rfl, rfl, rfl⟩) (by decide)⟩⟩, ⟨by rw [ht]; exact hP9, va_K.moved hW.alike hK9, hD9⟩⟩, hS.F ht⟩) hS.2.2 d_CU_word_71
        · have h5 : j < (LTx.getD 2 []).length := Nat.not_le.mp (fun h => h5 ((nI_leI (by omega) (by omega)).mpr h))
          refine lv_aload_n hx hb d_CU_word_41 rfl (lv_at hl 2 rfl) ?_
          refine lv_aload_n hx hb d_CU_word_42 rfl (lv_at hl 1 rfl) ?_
          refine lv_iload_n hx hb d_CU_word_43 rfl (lv_at hl 0 rfl) ?_
          have hcj := hSV_a.2.2.2.lt j
          have hPc : va_P (dC, dI) vwCl [] _ := hP.sub (ws' := []) [] rfl
          have hKc := hK.sub (tys' := []) [] rfl
          refine vp_callSi (W.runV (As := [.int (nI j)]) (rest := [.ref x]) ⟨hx, hb, hml, hown, htb⟩ (q_ST_charAt l dC dI (aK 2) v9 (LTx.getD 2 []) em aK aV A j h5) (cwV 1 htb (g_V (fun _ h => h) m_460 m_457 m_458 m_459 m_4) rfl rfl rfl (by decide +kernel) ⟨Nat.le_of_ble_eq_true rfl, Nat.le_of_ble_eq_true rfl⟩) ⟨fun a U g mk q => by obtain ⟨q0, qP, qK, z0, z1⟩ := q; exact ⟨q0, qP, va_K.moved (u := U) (U := U.calling g mk a) (Vm.Alike.refl U.vm) qK, EX.same (U := U) (U' := U.calling g mk a) rfl z0, SV.moved (Vm.Alike.refl U.vm) z1⟩, hSV_a.recv, fun U hU hW => ⟨rfl, by rw [hU]; exact hPc, va_K.moved hW.alike hKc, by rw [hU]; exact EX.warm hW (hE.kept (fun a h1 h2 => hS.2.1 a h1 h2)), by rw [hU]; exact SV.moved hW.alike hSV_a⟩⟩ rfl rfl hl.1 rfl (lv_room (Nat.le_of_ble_eq_true rfl)) d_CU_word_44 ⟨Nat.le_of_ble_eq_true rfl, Nat.le_of_ble_eq_true rfl⟩) (fun r5 hw6 => ?_)
          have hw6 : r5 = nI ((LTx.getD 2 []).getD j 0) := hw6
          obtain rfl := hw6
          have hpos : 0 < (LTx.getD 2 []).getD j 0 := lit_pos 2 (by decide) j h5
          have hPc := hP.sub (ws' := [(x, .inr (1, [.ref dl, .int (nI L.length), .int (nI b), .ref sb])), (dl, .inl (cC, 160, .inl f))]) [0, 1] rfl
          have hDc := hD.sub (ws' := [(x, .inr (1, [.ref dl, .int (nI L.length), .int (nI b), .ref sb])), (dl, .inl (cC, 160, .inl f))]) [0, 1] (by decide) rfl
          have hFc := va_free (wc := [(x, .inr (1, [.ref dl, .int (nI L.length), .int (nI b), .ref sb])), (dl, .inl (cC, 160, .inl f))]) hD hS hA [0, 1] rfl
          have hKc := hK.sub (tys' := [(cC, .char)]) [0] rfl
          refine va_calli (va_runV (As := [.int (nI ((LTx.getD 2 []).getD j 0))]) (rest := []) ⟨hx, hb, hml, hown, htb⟩ (k_CU_took l dC dI _ x dl sb cC f L b ((LTx.getD 2 []).getD j 0) hL hi1 hpos (by omega)) (cwV 1 htb (g_V (fun _ h => h) m_435 m_432 m_433 m_434 m_10) rfl rfl rfl (by decide +kernel) ⟨Nat.le_of_ble_eq_true rfl, Nat.le_of_ble_eq_true rfl⟩) ⟨fun a U g mk q => by obtain ⟨q0, q1, qP, qK, qD⟩ := q; exact ⟨q0, q1, qP, va_K.moved (u := U) (U := U.calling g mk a) (Vm.Alike.refl U.vm) qK, qD⟩, va_recv hK hP (ci := 1) rfl (q0 := 0) rfl, fun U hU hW => ⟨rfl, by rw [hU], by rw [hU]; exact hPc, va_K.moved hW.alike hKc, hDc.weaken (fun _ _ _ _ => trivial)⟩⟩ rfl rfl hl.1 rfl (lv_room (Nat.le_of_ble_eq_true rfl)) d_CU_word_47 ⟨Nat.le_of_ble_eq_true rfl, Nat.le_of_ble_eq_true rfl⟩) hS (fun q _ h => hFc q h) hFc (fun r8 u7 t H1 locs ht hvm hw9 hB hz1 hk1 hS => ?_)
          obtain ⟨hP1, hK1, hD1⟩ := hB
          rw [ht] at hP1
          have hK1 := va_K.moved hvm.symm hK1
          have hw9 : (r8 = 1 ∧ L.getD b 0 = ((LTx.getD 2 []).getD j 0) ∧ b < L.length ∧ u7 = b + 1) ∨ (r8 = 0 ∧ L.getD b 0 ≠ ((LTx.getD 2 []).getD j 0) ∧ u7 = b) := hw9
          obtain ⟨hP, hD⟩ := zz_joinN (pre := [(x, .inr (1, [.ref dl, .int (nI L.length), .int (nI b), .ref sb])), (dl, .inl (cC, 160, .inl f))]) (fz := fz) (wc := [(x, .inr (1, [.ref dl, .int (nI L.length), .int (nI b), .ref sb])), (dl, .inl (cC, 160, .inl f))]) (wr := []) (w1 := [(x, .inr (1, [.ref dl, .int (nI L.length), .int (nI u7), .ref sb])), (dl, .inl (cC, 160, .inl f))]) hP hD [0, 1] [] rfl rfl (by decide) (by decide) hk1 hFc hP1 hD1
          have hK := (hK.sub (tys' := [(cB, .byte)]) [1] rfl).app hK1
          generalize H1 = H at hP hS ⊢
          have hP : va_P (dC, dI) vwCl ([(x, .inr (1, [.ref dl, .int (nI L.length), .int (nI u7), .ref sb])), (dl, .inl (cC, 160, .inl f))] ++ fz) H := hP
          have hD : va_D A ([(x, .inr (1, [.ref dl, .int (nI L.length), .int (nI u7), .ref sb])), (dl, .inl (cC, 160, .inl f))] ++ fz) := hD
          have hK : va_K (dC, dI) vwCl [(cB, .byte), (cC, .char)] s := hK
          rcases hw9 with ⟨rfl, g1, g2, hab⟩ | ⟨rfl, g1, hab⟩
          · rw [hab] at hP hD
            have hP : va_P (dC, dI) vwCl ([(x, .inr (1, [.ref dl, .int (nI L.length), .int (nI (b + 1)), .ref sb])), (dl, .inl (cC, 160, .inl f))] ++ fz) H := hP
            have hD : va_D A ([(x, .inr (1, [.ref dl, .int (nI L.length), .int (nI (b + 1)), .ref sb])), (dl, .inl (cC, 160, .inl f))] ++ fz) := hD
            refine lv_if_ne (tgt := 55) hx hb d_CU_word_50 rfl (fun _ => ?_) (fun h9 => absurd h9 (by decide))
            refine lv_iinc (k := 0) (v := ((nI j) + Int32.ofInt 1)) hx hb d_CU_word_55 hl rfl rfl (by decide) rfl (fun ls hl => ?_)
            have hl : lv_has ls 3 [(2, .int ((nI j) + Int32.ofInt 1)), (1, .ref (aK 2)), (0, .ref x)] := hl
            rw [show nI j + Int32.ofInt 1 = nI (j + 1) from nI_1 _] at hl
            refine lv_goto (tgt := 33) hx hb d_CU_word_58 rfl ?_
            exact ih (4 - (j + 1)) (by omega) (j + 1) (b + 1) H locs ls rfl (by omega) (by omega) (by rw [hi2, drop_cons h5, drop_cons g2]; simp only [pfx]; rw [if_pos g1]) (by omega) (lv_sub hl [0, 1, 2] rfl) (zz_pickP (pre := [(x, .inr (1, [.ref dl, .int (nI L.length), .int (nI (b + 1)), .ref sb])), (dl, .inl (cC, 160, .inl f))]) (fz := fz) (wc := [(x, .inr (1, [.ref dl, .int (nI L.length), .int (nI (b + 1)), .ref sb])), (dl, .inl (cC, 160, .inl f))]) hP [0, 1] rfl) (zz_pickD (pre := [(x, .inr (1, [.ref dl, .int (nI L.length), .int (nI (b + 1)), .ref sb])), (dl, .inl (cC, 160, .inl f))]) (fz := fz) (wc := [(x, .inr (1, [.ref dl, .int (nI L.length), .int (nI (b + 1)), .ref sb])), (dl, .inl (cC, 160, .inl f))]) hD [0, 1] (by decide) rfl) hS
          · rw [hab] at hP hD
            have hP : va_P (dC, dI) vwCl ([(x, .inr (1, [.ref dl, .int (nI L.length), .int (nI b), .ref sb])), (dl, .inl (cC, 160, .inl f))] ++ fz) H := hP
            have hD : va_D A ([(x, .inr (1, [.ref dl, .int (nI L.length), .int (nI b), .ref sb])), (dl, .inl (cC, 160, .inl f))] ++ fz) := hD
            refine lv_if_ne (tgt := 55) hx hb d_CU_word_50 rfl (fun h9 => absurd (rfl) h9) (fun _ => ?_)
            refine lv_null hx hb d_CU_word_53 ?_
            have hno : wrd (L.drop a) = none := by
              rw [hwr, hi2, drop_cons h5]
              by_cases h7 : b < L.length
              · rw [drop_cons h7]; simp only [pfx]; rw [if_neg g1]
              · rw [show L.drop b = [] from List.drop_eq_nil_of_le (by omega)]; rfl
            have hP9 := zz_pickP (pre := [(x, .inr (1, [.ref dl, .int (nI L.length), .int (nI b), .ref sb])), (dl, .inl (cC, 160, .inl f))]) (fz := fz) (wc := [(x, .inr (1, [.ref dl, .int (nI L.length), .int (nI b), .ref sb])), (dl, .inl (cC, 160, .inl f))]) hP [0, 1] rfl
            have hD9 := zz_pickD (pre := [(x, .inr (1, [.ref dl, .int (nI L.length), .int (nI b), .ref sb])), (dl, .inl (cC, 160, .inl f))]) (fz := fz) (wc := [(x, .inr (1, [.ref dl, .int (nI L.length), .int (nI b), .ref sb])), (dl, .inl (cC, 160, .inl f))]) hD [0, 1] (by decide) rfl
            have hK9 := hK.sub (tys' := [(cC, .char), (cB, .byte)]) [1, 0] rfl
            rw [hQ]
            refine W.widen (k := 2) (n := 10) (Nat.le_of_ble_eq_true rfl) (Nat.le_of_ble_eq_true rfl) ?_
            exact W.aret (v := .null) hx hb hr (Or.inl ⟨_, rfl⟩) (Or.inl rfl) (fun t ht hW => ⟨⟨none, (b, []), rfl, ⟨by omega, by omega, Or.inl ⟨rfl, hno, rfl⟩⟩, ⟨by rw [ht]; exact hP9, va_K.moved hW.alike hK9, hD9⟩⟩, hS.F ht⟩) hS.2.2 d_CU_word_54
    exact hloop _ 0 a _ _ ls rfl (Nat.le_refl _) (ha) (rfl) (Nat.zero_le _) (lv_sub hl [0, 1, 2] rfl) (zz_pickP (pre := [(x, .inr (1, [.ref dl, .int (nI L.length), .int (nI a), .ref sb])), (dl, .inl (cC, 160, .inl f))]) (fz := fz) (wc := [(x, .inr (1, [.ref dl, .int (nI L.length), .int (nI a), .ref sb])), (dl, .inl (cC, 160, .inl f))]) hP [0, 1] rfl) (zz_pickD (pre := [(x, .inr (1, [.ref dl, .int (nI L.length), .int (nI a), .ref sb])), (dl, .inl (cC, 160, .inl f))]) (fz := fz) (wc := [(x, .inr (1, [.ref dl, .int (nI L.length), .int (nI a), .ref sb])), (dl, .inl (cC, 160, .inl f))]) hD [0, 1] (by decide) rfl) hS
