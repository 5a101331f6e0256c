def da (g : Nat → Option Nat) (d : Int32) : Option Nat := if d < 0 then none else if 3 ≤ d then none else g d.toNatClampNeg
theorem da_none (d : Int32) : da (fun _ => none) d = none := by unfold da; split <;> (try split) <;> rfl
theorem in3 {d : Int32} (h1 : ¬ d < 0) (h2 : ¬ 3 ≤ d) : vp_in d 3 := vp_in_iff.mpr (by
  rw [Int32.lt_iff_toInt_lt, Int32.toInt_zero] at h1
  rw [Int32.le_iff_toInt_le, show (3 : Int32).toInt = 3 from rfl] at h2
  omega)
theorem upn (k : Nat) : va_up (fun _ : Nat => (none : Option Nat)) k none = (fun _ => none) := by
  funext j
  unfold va_up
  split <;> rfl
/-- put at an empty draft -/
def pt (d : Int32) : Int32 := if d < 0 then -1 else if d < 3 then 1 else -1
set_option maxHeartbeats 1000000 in
set_option maxRecDepth 100000 in
/-- PatchStore(a, b): a fresh store -/
theorem k_PS_init (l : Launch) (dC : Nat → ClassId) (dI : Nat → Nat → Nat) (sz : Nat) (x : Nat) (a : Int32) (b : Int32) (em : Nat) (aK : Nat → Nat) (aV : Nat → Nat) : Met l y_PS_init ws_PS_init ({ frames := 4, cells := 6, slots := 189, locals := 72 }) (va_Pc [.ref x, .int a, .int b] (fun U => U.heap.size = sz ∧ va_P (dC, dI) vwCl [(x, .inr (0, [.int 0, .int 0, .null, .int 0, .null, .null, .null, .null]))] U.heap ∧ va_K (dC, dI) vwCl [] U ∧ va_D (fun _ => True) [(x, .inr (0, [.int 0, .int 0, .null, .int 0, .null, .null, .null, .null]))] ∧ EX em aK aV (va_A [(x, .inr (0, [.int 0, .int 0, .null, .int 0, .null, .null, .null, .null]))] sz) U U.heap)) (va_Qv (fun (u : Unit) => True) (fun u t => ∃ (dl : Nat) (sb : Nat) (dc : Nat) (cm : Nat) (fo : Nat) (bv : Nat) (cC : ClassId) (cB : ClassId) (cV : ClassId) (cW : ClassId), va_P (dC, dI) vwCl [(x, .inr (0, [.int (1 + (a &&& 7)), .int (1 + (b &&& 31)), .ref dl, .int 0, .ref sb, .ref dc, .ref cm, .ref fo])), (dl, .inl (cC, 160, .inl (fun _ => 0))), (sb, .inr (13, [.ref bv, .int 0, .int 0, .int 0])), (bv, .inl (cB, 16, .inl (fun _ => 0))), (dc, .inl (cV, 3, .inr (.inr (.inr (.inr (fun _ => none)))))), (cm, .inl (cW, 3, .inr (.inr (.inr (.inr (fun _ => none)))))), (fo, .inr (14, [.ref em, .int 0, .int 0]))] t.heap ∧ va_K (dC, dI) vwCl [(cC, .char), (cB, .byte), (cV, .object "PatchStore$Value"), (cW, .object "PatchStore$Value")] t ∧ va_D (va_A [(x, .inr (0, [.int 0, .int 0, .null, .int 0, .null, .null, .null, .null]))] sz) [(x, .inr (0, [.int (1 + (a &&& 7)), .int (1 + (b &&& 31)), .ref dl, .int 0, .ref sb, .ref dc, .ref cm, .ref fo])), (dl, .inl (cC, 160, .inl (fun _ => 0))), (sb, .inr (13, [.ref bv, .int 0, .int 0, .int 0])), (bv, .inl (cB, 16, .inl (fun _ => 0))), (dc, .inl (cV, 3, .inr (.inr (.inr (.inr (fun _ => none)))))), (cm, .inl (cW, 3, .inr (.inr (.inr (.inr (fun _ => none)))))), (fo, .inr (14, [.ref em, .int 0, .int 0]))]) (va_A [(x, .inr (0, [.int 0, .int 0, .null, .int 0, .null, .null, .null, .null]))] sz)) 6 189 (va_A [(x, .inr (0, [.int 0, .int 0, .null, .int 0, .null, .null, .null, .null]))] sz) := by
  refine Met.ofW (cc := c_PS_init) (maxL := 3) (ret := none) (by decide) rfl ?_
  intro p e s m args below meth c s₁ B hml hv
  obtain ⟨rfl, hsz, hP, hK, hD0, hE⟩ := hv
  have hx := B.exec
  have hb := B.bytes
  have hr := B.returns
  have hts := atoms_spec (ws := ws_PS_init) B.pre
  have htb := fun w (h : w ∈ TBL) => hts w (List.mem_cons_of_mem _ h)
  have hown : s.vm.findClass R_PS = some m.cls := findClass_of_methodNamed B.named
  have hlocks := B.notSynchronized
  have hin : meth.name = "<init>" := (name_of_methodNamed B.named B.method).1
  subst hsz
  have hD := hD0.self (sz := s.heap.size)
  generalize hAe : va_A [(x, .inr (0, [.int 0, .int 0, .null, .int 0, .null, .null, .null, .null]))] s.heap.size = A at hD hE ⊢
  have hA : ∀ q : Nat, s.heap.size ≤ q → A q := fun q h => by rw [← hAe]; exact Or.inr h
  have hS : va_S A s.heap s.heap [] := va_S.rf
  have hP : va_P (dC, dI) vwCl [(x, .inr (0, [.int 0, .int 0, .null, .int 0, .null, .null, .null, .null]))] s.heap := hP
  have hl := lv_entry ([.ref x, .int a, .int b]) (n := 3) (Nat.le_of_ble_eq_true rfl)
  rw [lg_entry_eq]
  generalize (lg_sl ([.ref x, .int a, .int b]) ++ List.replicate (3 - (lg_sl ([.ref x, .int a, .int b])).length) Slot.unset).toArray = ls at hl ⊢
  have hl : lv_has ls 3 [(0, .ref x), (1, .int a), (2, .int b)] := hl
  refine lv_aload_n hx hb d_PS_init_0 rfl (lv_at hl 0 rfl) ?_
  refine W.objInit hx hb hown (htb _ m_34) (htb _ m_35) (htb _ m_36) rfl (by rw [hml]; exact hl.1) rfl d_PS_init_1 (Nat.le_of_ble_eq_true rfl) (Nat.le_of_ble_eq_true rfl) ?_
  refine W.eq (g2 := F0 m 4 ls []) rfl ?_
  refine lv_aload_n hx hb d_PS_init_4 rfl (lv_at hl 0 rfl) ?_
  refine lv_sipush (v := 160) hx hb d_PS_init_5 (by decide) ?_
  refine va_newa (atype := .char) (ty := .char) (N' := 160) (a0 := (160, .inl (fun _ => 0))) hx hb (htb _ m_69) rfl hK hP hD hS hA (fun _ => rfl) (by decide) (by decide) (by decide) (Nat.le_of_ble_eq_true rfl) (Nat.le_of_ble_eq_true rfl) d_PS_init_8 (fun dl cC H hK hP hD hS => ?_)
  have hK : va_K (dC, dI) vwCl [(cC, .char)] s := hK
  have hP : va_P (dC, dI) vwCl [(x, .inr (0, [.int 0, .int 0, .null, .int 0, .null, .null, .null, .null])), (dl, .inl (cC, 160, .inl (fun _ => 0)))] H := hP
  have hD : va_D A [(x, .inr (0, [.int 0, .int 0, .null, .int 0, .null, .null, .null, .null])), (dl, .inl (cC, 160, .inl (fun _ => 0)))] := hD
  refine W.widen (k := 1) (n := 160) (Nat.le_of_ble_eq_true rfl) (Nat.le_of_ble_eq_true rfl) ?_
  refine va_putF (D := (dC, dI)) (ci := 0) (v := .ref dl) (ty := (.array .char)) (C := R_PS) (T := T_PS) (N := 8) hx hb htb in_PS ty_PS ty_PS_ok nm_PS hown hK hP hD hS 0 rfl rfl 2 (by decide) (htb _ m_101) (fun _ h9 => h9) rfl hin rfl (by decide +kernel) rfl rfl (Nat.le_of_ble_eq_true rfl) d_PS_init_10 (fun H locs hP hD hS => ?_)
  have hP : va_P (dC, dI) vwCl [(x, .inr (0, [.int 0, .int 0, .ref dl, .int 0, .null, .null, .null, .null])), (dl, .inl (cC, 160, .inl (fun _ => 0)))] H := hP
  have hD : va_D A [(x, .inr (0, [.int 0, .int 0, .ref dl, .int 0, .null, .null, .null, .null])), (dl, .inl (cC, 160, .inl (fun _ => 0)))] := hD
  refine lv_aload_n hx hb d_PS_init_13 rfl (lv_at hl 0 rfl) ?_
  refine lv_iconst (v := 0) hx hb d_PS_init_14 (by decide) ?_
  refine va_put (D := (dC, dI)) (ci := 0) (v := .int 0) (ty := .int) (C := R_PS) (T := T_PS) (N := 8) hx hb htb in_PS ty_PS ty_PS_ok nm_PS hown hK hP hD hS 0 rfl rfl 3 (by decide) (htb _ m_102) (fun _ h9 => h9) rfl (by decide +kernel) rfl rfl (Nat.le_of_ble_eq_true rfl) d_PS_init_15 (fun H locs hP hD hS => ?_)
  have hP : va_P (dC, dI) vwCl [(x, .inr (0, [.int 0, .int 0, .ref dl, .int 0, .null, .null, .null, .null])), (dl, .inl (cC, 160, .inl (fun _ => 0)))] H := hP
  have hD : va_D A [(x, .inr (0, [.int 0, .int 0, .ref dl, .int 0, .null, .null, .null, .null])), (dl, .inl (cC, 160, .inl (fun _ => 0)))] := hD
  refine lv_aload_n hx hb d_PS_init_18 rfl (lv_at hl 0 rfl) ?_
  refine va_new (ci := 13) (fs := [.null, .int 0, .int 0, .int 0]) (C := R_SB) (T := T_SB) (N := 4) hx hb htb in_SB ty_SB ty_SB_ok hown (htb _ m_37) (htb _ m_38) (htb _ m_3) hK hP hD hS hA rfl (fun j hj => by rcases (show j = 0 ∨ j = 1 ∨ j = 2 ∨ j = 3 by omega) with rfl | rfl | rfl | rfl <;> rfl) (Nat.le_of_ble_eq_true rfl) (Nat.le_of_ble_eq_true rfl) d_PS_init_19 (fun sb H hP hD hS => ?_)
  have hP : va_P (dC, dI) vwCl [(x, .inr (0, [.int 0, .int 0, .ref dl, .int 0, .null, .null, .null, .null])), (dl, .inl (cC, 160, .inl (fun _ => 0))), (sb, .inr (13, [.null, .int 0, .int 0, .int 0]))] H := hP
  have hD : va_D A [(x, .inr (0, [.int 0, .int 0, .ref dl, .int 0, .null, .null, .null, .null])), (dl, .inl (cC, 160, .inl (fun _ => 0))), (sb, .inr (13, [.null, .int 0, .int 0, .int 0]))] := hD
  refine W.widen (k := 2) (n := 164) (Nat.le_of_ble_eq_true rfl) (Nat.le_of_ble_eq_true rfl) ?_
  refine lv_dup hx hb d_PS_init_22 rfl ?_
  have hPc := hP.sub (ws' := [(sb, .inr (13, [.null, .int 0, .int 0, .int 0]))]) [2] rfl
  have hDc := hD.sub (ws' := [(sb, .inr (13, [.null, .int 0, .int 0, .int 0]))]) [2] (by decide) rfl
  have hKc := hK.sub (tys' := []) [] rfl
  have hFc := va_free (wc := [(sb, .inr (13, [.null, .int 0, .int 0, .int 0]))]) hD hS hA [2] rfl
  refine va_callv (va_runI (As := []) (rest := [.ref sb, .ref x]) ⟨hx, hb, hml, hown, htb⟩ (k_SB_init l dC dI _ sb em aK aV ) (cwI 0 htb (g_all (fun _ h => h) m_41) rfl rfl rfl (htb _ m_3) (htb _ m_39) (htb _ m_40) rfl (by decide +kernel) ⟨Nat.le_of_ble_eq_true rfl, Nat.le_of_ble_eq_true rfl⟩) ⟨fun a U g mk q => by obtain ⟨q0, q1, qP, qK, qD, z0⟩ := q; exact ⟨q0, q1, qP, va_K.moved (u := U) (U := U.calling g mk a) (Vm.Alike.refl U.vm) qK, qD, EX.same (U := U) (U' := U.calling g mk a) rfl z0⟩, fun U hU hW => ⟨rfl, by rw [hU], by rw [hU]; exact hPc, va_K.moved hW.alike hKc, hDc.weaken (fun _ _ _ _ => trivial), by rw [hU]; exact EX.warm hW ((hE.kept (fun a h1 h2 => hS.2.1 a h1 h2)).narrow hFc)⟩⟩ rfl rfl hl.1 rfl (lv_room (Nat.le_of_ble_eq_true rfl)) d_PS_init_23 ⟨Nat.le_of_ble_eq_true rfl, Nat.le_of_ble_eq_true rfl⟩) hS (fun q _ h => hFc q h) hFc (fun u1 t H1 locs ht hvm hw3 hB hz1 hk1 hS => ?_)
  obtain ⟨x5, x6, hP1, hK1, hD1⟩ := hB
  rw [ht] at hP1
  have hK1 := va_K.moved hvm.symm hK1
  have hw3 : True := hw3
  obtain ⟨hP, hD⟩ := va_join (wr := [(x, .inr (0, [.int 0, .int 0, .ref dl, .int 0, .null, .null, .null, .null])), (dl, .inl (cC, 160, .inl (fun _ => 0)))]) (w1 := [(sb, .inr (13, [.ref x5, .int 0, .int 0, .int 0])), (x5, .inl (x6, 16, .inl (fun _ => 0)))]) hP hD [2] [0, 1] rfl rfl (by decide) (by decide) hk1 hFc hP1 hD1
  have hK := (hK.sub (tys' := [(cC, .char)]) [0] rfl).app hK1
  generalize H1 = H at hP hS ⊢
  have hP : va_P (dC, dI) vwCl [(x, .inr (0, [.int 0, .int 0, .ref dl, .int 0, .null, .null, .null, .null])), (dl, .inl (cC, 160, .inl (fun _ => 0))), (sb, .inr (13, [.ref x5, .int 0, .int 0, .int 0])), (x5, .inl (x6, 16, .inl (fun _ => 0)))] H := hP
  have hD : va_D A [(x, .inr (0, [.int 0, .int 0, .ref dl, .int 0, .null, .null, .null, .null])), (dl, .inl (cC, 160, .inl (fun _ => 0))), (sb, .inr (13, [.ref x5, .int 0, .int 0, .int 0])), (x5, .inl (x6, 16, .inl (fun _ => 0)))] := hD
  have hK : va_K (dC, dI) vwCl [(cC, .char), (x6, .byte)] s := hK
  refine W.widen (k := 3) (n := 180) (Nat.le_of_ble_eq_true rfl) (Nat.le_of_ble_eq_true rfl) ?_
  refine va_putF (D := (dC, dI)) (ci := 0) (v := .ref sb) (ty := (.object "java/lang/StringBuilder")) (C := R_PS) (T := T_PS) (N := 8) hx hb htb in_PS ty_PS ty_PS_ok nm_PS hown hK hP hD hS 0 rfl rfl 4 (by decide) (htb _ m_103) (fun _ h9 => h9) rfl hin rfl (by decide +kernel) rfl rfl (Nat.le_of_ble_eq_true rfl) d_PS_init_26 (fun H locs hP hD hS => ?_)
  have hP : va_P (dC, dI) vwCl [(x, .inr (0, [.int 0, .int 0, .ref dl, .int 0, .ref sb, .null, .null, .null])), (dl, .inl (cC, 160, .inl (fun _ => 0))), (sb, .inr (13, [.ref x5, .int 0, .int 0, .int 0])), (x5, .inl (x6, 16, .inl (fun _ => 0)))] H := hP
  have hD : va_D A [(x, .inr (0, [.int 0, .int 0, .ref dl, .int 0, .ref sb, .null, .null, .null])), (dl, .inl (cC, 160, .inl (fun _ => 0))), (sb, .inr (13, [.ref x5, .int 0, .int 0, .int 0])), (x5, .inl (x6, 16, .inl (fun _ => 0)))] := hD
  refine lv_aload_n hx hb d_PS_init_29 rfl (lv_at hl 0 rfl) ?_
  refine lv_iconst (v := 3) hx hb d_PS_init_30 (by decide) ?_
  refine va_newq (N' := 3) hx hb hown (htb _ m_71) hE.2.1 hK hP hD hS hA (by decide) (by decide) (by decide) (Nat.le_of_ble_eq_true rfl) (Nat.le_of_ble_eq_true rfl) d_PS_init_31 (fun dc cV H hK hP hD hS => ?_)
  have hK : va_K (dC, dI) vwCl [(cC, .char), (x6, .byte), (cV, .object "PatchStore$Value")] s := hK
  have hP : va_P (dC, dI) vwCl [(x, .inr (0, [.int 0, .int 0, .ref dl, .int 0, .ref sb, .null, .null, .null])), (dl, .inl (cC, 160, .inl (fun _ => 0))), (sb, .inr (13, [.ref x5, .int 0, .int 0, .int 0])), (x5, .inl (x6, 16, .inl (fun _ => 0))), (dc, .inl (cV, 3, .inr (.inr (.inr (.inr (fun _ => none))))))] H := hP
  have hD : va_D A [(x, .inr (0, [.int 0, .int 0, .ref dl, .int 0, .ref sb, .null, .null, .null])), (dl, .inl (cC, 160, .inl (fun _ => 0))), (sb, .inr (13, [.ref x5, .int 0, .int 0, .int 0])), (x5, .inl (x6, 16, .inl (fun _ => 0))), (dc, .inl (cV, 3, .inr (.inr (.inr (.inr (fun _ => none))))))] := hD
  refine W.widen (k := 4) (n := 183) (Nat.le_of_ble_eq_true rfl) (Nat.le_of_ble_eq_true rfl) ?_
  refine va_putF (D := (dC, dI)) (ci := 0) (v := .ref dc) (ty := (.array (.object "PatchStore$Value"))) (C := R_PS) (T := T_PS) (N := 8) hx hb htb in_PS ty_PS ty_PS_ok nm_PS hown hK hP hD hS 0 rfl rfl 5 (by decide) (htb _ m_104) (fun _ h9 => h9) rfl hin rfl (by decide +kernel) rfl rfl (Nat.le_of_ble_eq_true rfl) d_PS_init_34 (fun H locs hP hD hS => ?_)
  have hP : va_P (dC, dI) vwCl [(x, .inr (0, [.int 0, .int 0, .ref dl, .int 0, .ref sb, .ref dc, .null, .null])), (dl, .inl (cC, 160, .inl (fun _ => 0))), (sb, .inr (13, [.ref x5, .int 0, .int 0, .int 0])), (x5, .inl (x6, 16, .inl (fun _ => 0))), (dc, .inl (cV, 3, .inr (.inr (.inr (.inr (fun _ => none))))))] H := hP
  have hD : va_D A [(x, .inr (0, [.int 0, .int 0, .ref dl, .int 0, .ref sb, .ref dc, .null, .null])), (dl, .inl (cC, 160, .inl (fun _ => 0))), (sb, .inr (13, [.ref x5, .int 0, .int 0, .int 0])), (x5, .inl (x6, 16, .inl (fun _ => 0))), (dc, .inl (cV, 3, .inr (.inr (.inr (.inr (fun _ => none))))))] := hD
  refine lv_aload_n hx hb d_PS_init_37 rfl (lv_at hl 0 rfl) ?_
  refine lv_iconst (v := 3) hx hb d_PS_init_38 (by decide) ?_
  refine va_newq (N' := 3) hx hb hown (htb _ m_71) hE.2.1 hK hP hD hS hA (by decide) (by decide) (by decide) (Nat.le_of_ble_eq_true rfl) (Nat.le_of_ble_eq_true rfl) d_PS_init_39 (fun cm cW H hK hP hD hS => ?_)
  have hK : va_K (dC, dI) vwCl [(cC, .char), (x6, .byte), (cV, .object "PatchStore$Value"), (cW, .object "PatchStore$Value")] s := hK
  have hP : va_P (dC, dI) vwCl [(x, .inr (0, [.int 0, .int 0, .ref dl, .int 0, .ref sb, .ref dc, .null, .null])), (dl, .inl (cC, 160, .inl (fun _ => 0))), (sb, .inr (13, [.ref x5, .int 0, .int 0, .int 0])), (x5, .inl (x6, 16, .inl (fun _ => 0))), (dc, .inl (cV, 3, .inr (.inr (.inr (.inr (fun _ => none)))))), (cm, .inl (cW, 3, .inr (.inr (.inr (.inr (fun _ => none))))))] H := hP
  have hD : va_D A [(x, .inr (0, [.int 0, .int 0, .ref dl, .int 0, .ref sb, .ref dc, .null, .null])), (dl, .inl (cC, 160, .inl (fun _ => 0))), (sb, .inr (13, [.ref x5, .int 0, .int 0, .int 0])), (x5, .inl (x6, 16, .inl (fun _ => 0))), (dc, .inl (cV, 3, .inr (.inr (.inr (.inr (fun _ => none)))))), (cm, .inl (cW, 3, .inr (.inr (.inr (.inr (fun _ => none))))))] := hD
  refine W.widen (k := 5) (n := 186) (Nat.le_of_ble_eq_true rfl) (Nat.le_of_ble_eq_true rfl) ?_
  refine va_putF (D := (dC, dI)) (ci := 0) (v := .ref cm) (ty := (.array (.object "PatchStore$Value"))) (C := R_PS) (T := T_PS) (N := 8) hx hb htb in_PS ty_PS ty_PS_ok nm_PS hown hK hP hD hS 0 rfl rfl 6 (by decide) (htb _ m_105) (fun _ h9 => h9) rfl hin rfl (by decide +kernel) rfl rfl (Nat.le_of_ble_eq_true rfl) d_PS_init_42 (fun H locs hP hD hS => ?_)
  have hP : va_P (dC, dI) vwCl [(x, .inr (0, [.int 0, .int 0, .ref dl, .int 0, .ref sb, .ref dc, .ref cm, .null])), (dl, .inl (cC, 160, .inl (fun _ => 0))), (sb, .inr (13, [.ref x5, .int 0, .int 0, .int 0])), (x5, .inl (x6, 16, .inl (fun _ => 0))), (dc, .inl (cV, 3, .inr (.inr (.inr (.inr (fun _ => none)))))), (cm, .inl (cW, 3, .inr (.inr (.inr (.inr (fun _ => none))))))] H := hP
  have hD : va_D A [(x, .inr (0, [.int 0, .int 0, .ref dl, .int 0, .ref sb, .ref dc, .ref cm, .null])), (dl, .inl (cC, 160, .inl (fun _ => 0))), (sb, .inr (13, [.ref x5, .int 0, .int 0, .int 0])), (x5, .inl (x6, 16, .inl (fun _ => 0))), (dc, .inl (cV, 3, .inr (.inr (.inr (.inr (fun _ => none)))))), (cm, .inl (cW, 3, .inr (.inr (.inr (.inr (fun _ => none))))))] := hD
  refine lv_aload_n hx hb d_PS_init_45 rfl (lv_at hl 0 rfl) ?_
  refine va_new (ci := 14) (fs := [.null, .int 0, .int 0]) (C := R_AL) (T := T_AL) (N := 3) hx hb htb in_AL ty_AL ty_AL_ok hown (htb _ m_73) (htb _ m_74) (htb _ m_8) hK hP hD hS hA rfl (fun j hj => by rcases (show j = 0 ∨ j = 1 ∨ j = 2 by omega) with rfl | rfl | rfl <;> rfl) (Nat.le_of_ble_eq_true rfl) (Nat.le_of_ble_eq_true rfl) d_PS_init_46 (fun fo H hP hD hS => ?_)
  have hP : va_P (dC, dI) vwCl [(x, .inr (0, [.int 0, .int 0, .ref dl, .int 0, .ref sb, .ref dc, .ref cm, .null])), (dl, .inl (cC, 160, .inl (fun _ => 0))), (sb, .inr (13, [.ref x5, .int 0, .int 0, .int 0])), (x5, .inl (x6, 16, .inl (fun _ => 0))), (dc, .inl (cV, 3, .inr (.inr (.inr (.inr (fun _ => none)))))), (cm, .inl (cW, 3, .inr (.inr (.inr (.inr (fun _ => none)))))), (fo, .inr (14, [.null, .int 0, .int 0]))] H := hP
  have hD : va_D A [(x, .inr (0, [.int 0, .int 0, .ref dl, .int 0, .ref sb, .ref dc, .ref cm, .null])), (dl, .inl (cC, 160, .inl (fun _ => 0))), (sb, .inr (13, [.ref x5, .int 0, .int 0, .int 0])), (x5, .inl (x6, 16, .inl (fun _ => 0))), (dc, .inl (cV, 3, .inr (.inr (.inr (.inr (fun _ => none)))))), (cm, .inl (cW, 3, .inr (.inr (.inr (.inr (fun _ => none)))))), (fo, .inr (14, [.null, .int 0, .int 0]))] := hD
  refine W.widen (k := 6) (n := 189) (Nat.le_of_ble_eq_true rfl) (Nat.le_of_ble_eq_true rfl) ?_
  refine lv_dup hx hb d_PS_init_49 rfl ?_
  have hPc := hP.sub (ws' := [(fo, .inr (14, [.null, .int 0, .int 0]))]) [6] rfl
  have hDc := hD.sub (ws' := [(fo, .inr (14, [.null, .int 0, .int 0]))]) [6] (by decide) rfl
  have hKc := hK.sub (tys' := []) [] rfl
  have hFc := va_free (wc := [(fo, .inr (14, [.null, .int 0, .int 0]))]) hD hS hA [6] rfl
  refine va_callv (va_runI (As := []) (rest := [.ref fo, .ref x]) ⟨hx, hb, hml, hown, htb⟩ (k_AL_init l dC dI _ fo em aK aV ) (cwI 0 htb (g_all (fun _ h => h) m_77) rfl rfl rfl (htb _ m_8) (htb _ m_75) (htb _ m_76) rfl (by decide +kernel) ⟨Nat.le_of_ble_eq_true rfl, Nat.le_of_ble_eq_true rfl⟩) ⟨fun a U g mk q => by obtain ⟨q0, q1, qP, qK, qD, z0⟩ := q; exact ⟨q0, q1, qP, va_K.moved (u := U) (U := U.calling g mk a) (Vm.Alike.refl U.vm) qK, qD, EX.same (U := U) (U' := U.calling g mk a) rfl z0⟩, fun U hU hW => ⟨rfl, by rw [hU], by rw [hU]; exact hPc, va_K.moved hW.alike hKc, hDc.weaken (fun _ _ _ _ => trivial), by rw [hU]; exact EX.warm hW ((hE.kept (fun a h1 h2 => hS.2.1 a h1 h2)).narrow hFc)⟩⟩ rfl rfl hl.1 rfl (lv_room (Nat.le_of_ble_eq_true rfl)) d_PS_init_50 ⟨Nat.le_of_ble_eq_true rfl, Nat.le_of_ble_eq_true rfl⟩) hS (fun q _ h => hFc q h) hFc (fun u7 t H1 locs ht hvm hw9 hB hz1 hk1 hS => ?_)
  obtain ⟨hP1, hK1, hD1⟩ := hB
  rw [ht] at hP1
  have hK1 := va_K.moved hvm.symm hK1
  have hw9 : True := hw9
  obtain ⟨hP, hD⟩ := va_join (wr := [(x, .inr (0, [.int 0, .int 0, .ref dl, .int 0, .ref sb, .ref dc, .ref cm, .null])), (dl, .inl (cC, 160, .inl (fun _ => 0))), (sb, .inr (13, [.ref x5, .int 0, .int 0, .int 0])), (x5, .inl (x6, 16, .inl (fun _ => 0))), (dc, .inl (cV, 3, .inr (.inr (.inr (.inr (fun _ => none)))))), (cm, .inl (cW, 3, .inr (.inr (.inr (.inr (fun _ => none))))))]) (w1 := [(fo, .inr (14, [.ref em, .int 0, .int 0]))]) hP hD [6] [0, 1, 2, 3, 4, 5] rfl rfl (by decide) (by decide) hk1 hFc hP1 hD1
  have hK := (hK.sub (tys' := [(cC, .char), (x6, .byte), (cV, .object "PatchStore$Value"), (cW, .object "PatchStore$Value")]) [0, 1, 2, 3] rfl).app hK1
  generalize H1 = H at hP hS ⊢
  have hP : va_P (dC, dI) vwCl [(x, .inr (0, [.int 0, .int 0, .ref dl, .int 0, .ref sb, .ref dc, .ref cm, .null])), (dl, .inl (cC, 160, .inl (fun _ => 0))), (sb, .inr (13, [.ref x5, .int 0, .int 0, .int 0])), (x5, .inl (x6, 16, .inl (fun _ => 0))), (dc, .inl (cV, 3, .inr (.inr (.inr (.inr (fun _ => none)))))), (cm, .inl (cW, 3, .inr (.inr (.inr (.inr (fun _ => none)))))), (fo, .inr (14, [.ref em, .int 0, .int 0]))] H := hP
  have hD : va_D A [(x, .inr (0, [.int 0, .int 0, .ref dl, .int 0, .ref sb, .ref dc, .ref cm, .null])), (dl, .inl (cC, 160, .inl (fun _ => 0))), (sb, .inr (13, [.ref x5, .int 0, .int 0, .int 0])), (x5, .inl (x6, 16, .inl (fun _ => 0))), (dc, .inl (cV, 3, .inr (.inr (.inr (.inr (fun _ => none)))))), (cm, .inl (cW, 3, .inr (.inr (.inr (.inr (fun _ => none)))))), (fo, .inr (14, [.ref em, .int 0, .int 0]))] := hD
  have hK : va_K (dC, dI) vwCl [(cC, .char), (x6, .byte), (cV, .object "PatchStore$Value"), (cW, .object "PatchStore$Value")] s := hK
  refine va_put (D := (dC, dI)) (ci := 0) (v := .ref fo) (ty := (.object "java/util/ArrayList")) (C := R_PS) (T := T_PS) (N := 8) hx hb htb in_PS ty_PS ty_PS_ok nm_PS hown hK hP hD hS 0 rfl rfl 7 (by decide) (htb _ m_106) (fun _ h9 => h9) rfl (by decide +kernel) rfl rfl (Nat.le_of_ble_eq_true rfl) d_PS_init_53 (fun H locs hP hD hS => ?_)
  have hP : va_P (dC, dI) vwCl [(x, .inr (0, [.int 0, .int 0, .ref dl, .int 0, .ref sb, .ref dc, .ref cm, .ref fo])), (dl, .inl (cC, 160, .inl (fun _ => 0))), (sb, .inr (13, [.ref x5, .int 0, .int 0, .int 0])), (x5, .inl (x6, 16, .inl (fun _ => 0))), (dc, .inl (cV, 3, .inr (.inr (.inr (.inr (fun _ => none)))))), (cm, .inl (cW, 3, .inr (.inr (.inr (.inr (fun _ => none)))))), (fo, .inr (14, [.ref em, .int 0, .int 0]))] H := hP
  have hD : va_D A [(x, .inr (0, [.int 0, .int 0, .ref dl, .int 0, .ref sb, .ref dc, .ref cm, .ref fo])), (dl, .inl (cC, 160, .inl (fun _ => 0))), (sb, .inr (13, [.ref x5, .int 0, .int 0, .int 0])), (x5, .inl (x6, 16, .inl (fun _ => 0))), (dc, .inl (cV, 3, .inr (.inr (.inr (.inr (fun _ => none)))))), (cm, .inl (cW, 3, .inr (.inr (.inr (.inr (fun _ => none)))))), (fo, .inr (14, [.ref em, .int 0, .int 0]))] := hD
  refine lv_aload_n hx hb d_PS_init_56 rfl (lv_at hl 0 rfl) ?_
  refine lv_iconst (v := 1) hx hb d_PS_init_57 (by decide) ?_
  refine lv_iload_n hx hb d_PS_init_58 rfl (lv_at hl 1 rfl) ?_
  refine lv_bipush (v := 7) hx hb d_PS_init_59 (by decide) ?_
  refine lv_iand hx hb d_PS_init_61 ?_
  refine lv_iadd hx hb d_PS_init_62 ?_
  refine va_putF (D := (dC, dI)) (ci := 0) (v := .int (1 + (a &&& 7))) (ty := .int) (C := R_PS) (T := T_PS) (N := 8) hx hb htb in_PS ty_PS ty_PS_ok nm_PS hown hK hP hD hS 0 rfl rfl 0 (by decide) (htb _ m_99) (fun _ h9 => h9) rfl hin rfl (by decide +kernel) rfl rfl (Nat.le_of_ble_eq_true rfl) d_PS_init_63 (fun H locs hP hD hS => ?_)
  have hP : va_P (dC, dI) vwCl [(x, .inr (0, [.int (1 + (a &&& 7)), .int 0, .ref dl, .int 0, .ref sb, .ref dc, .ref cm, .ref fo])), (dl, .inl (cC, 160, .inl (fun _ => 0))), (sb, .inr (13, [.ref x5, .int 0, .int 0, .int 0])), (x5, .inl (x6, 16, .inl (fun _ => 0))), (dc, .inl (cV, 3, .inr (.inr (.inr (.inr (fun _ => none)))))), (cm, .inl (cW, 3, .inr (.inr (.inr (.inr (fun _ => none)))))), (fo, .inr (14, [.ref em, .int 0, .int 0]))] H := hP
  have hD : va_D A [(x, .inr (0, [.int (1 + (a &&& 7)), .int 0, .ref dl, .int 0, .ref sb, .ref dc, .ref cm, .ref fo])), (dl, .inl (cC, 160, .inl (fun _ => 0))), (sb, .inr (13, [.ref x5, .int 0, .int 0, .int 0])), (x5, .inl (x6, 16, .inl (fun _ => 0))), (dc, .inl (cV, 3, .inr (.inr (.inr (.inr (fun _ => none)))))), (cm, .inl (cW, 3, .inr (.inr (.inr (.inr (fun _ => none)))))), (fo, .inr (14, [.ref em, .int 0, .int 0]))] := hD
  refine lv_aload_n hx hb d_PS_init_66 rfl (lv_at hl 0 rfl) ?_
  refine lv_iconst (v := 1) hx hb d_PS_init_67 (by decide) ?_
  refine lv_iload_n hx hb d_PS_init_68 rfl (lv_at hl 2 rfl) ?_
  refine lv_bipush (v := 31) hx hb d_PS_init_69 (by decide) ?_
  refine lv_iand hx hb d_PS_init_71 ?_
  refine lv_iadd hx hb d_PS_init_72 ?_
  refine va_putF (D := (dC, dI)) (ci := 0) (v := .int (1 + (b &&& 31))) (ty := .int) (C := R_PS) (T := T_PS) (N := 8) hx hb htb in_PS ty_PS ty_PS_ok nm_PS hown hK hP hD hS 0 rfl rfl 1 (by decide) (htb _ m_100) (fun _ h9 => h9) rfl hin rfl (by decide +kernel) rfl rfl (Nat.le_of_ble_eq_true rfl) d_PS_init_73 (fun H locs hP hD hS => ?_)
  have hP : va_P (dC, dI) vwCl [(x, .inr (0, [.int (1 + (a &&& 7)), .int (1 + (b &&& 31)), .ref dl, .int 0, .ref sb, .ref dc, .ref cm, .ref fo])), (dl, .inl (cC, 160, .inl (fun _ => 0))), (sb, .inr (13, [.ref x5, .int 0, .int 0, .int 0])), (x5, .inl (x6, 16, .inl (fun _ => 0))), (dc, .inl (cV, 3, .inr (.inr (.inr (.inr (fun _ => none)))))), (cm, .inl (cW, 3, .inr (.inr (.inr (.inr (fun _ => none)))))), (fo, .inr (14, [.ref em, .int 0, .int 0]))] H := hP
  have hD : va_D A [(x, .inr (0, [.int (1 + (a &&& 7)), .int (1 + (b &&& 31)), .ref dl, .int 0, .ref sb, .ref dc, .ref cm, .ref fo])), (dl, .inl (cC, 160, .inl (fun _ => 0))), (sb, .inr (13, [.ref x5, .int 0, .int 0, .int 0])), (x5, .inl (x6, 16, .inl (fun _ => 0))), (dc, .inl (cV, 3, .inr (.inr (.inr (.inr (fun _ => none)))))), (cm, .inl (cW, 3, .inr (.inr (.inr (.inr (fun _ => none)))))), (fo, .inr (14, [.ref em, .int 0, .int 0]))] := hD
  have hP9 := hP.sub (ws' := [(x, .inr (0, [.int (1 + (a &&& 7)), .int (1 + (b &&& 31)), .ref dl, .int 0, .ref sb, .ref dc, .ref cm, .ref fo])), (dl, .inl (cC, 160, .inl (fun _ => 0))), (sb, .inr (13, [.ref x5, .int 0, .int 0, .int 0])), (x5, .inl (x6, 16, .inl (fun _ => 0))), (dc, .inl (cV, 3, .inr (.inr (.inr (.inr (fun _ => none)))))), (cm, .inl (cW, 3, .inr (.inr (.inr (.inr (fun _ => none)))))), (fo, .inr (14, [.ref em, .int 0, .int 0]))]) [0, 1, 2, 3, 4, 5, 6] rfl
  have hD9 := hD.sub (ws' := [(x, .inr (0, [.int (1 + (a &&& 7)), .int (1 + (b &&& 31)), .ref dl, .int 0, .ref sb, .ref dc, .ref cm, .ref fo])), (dl, .inl (cC, 160, .inl (fun _ => 0))), (sb, .inr (13, [.ref x5, .int 0, .int 0, .int 0])), (x5, .inl (x6, 16, .inl (fun _ => 0))), (dc, .inl (cV, 3, .inr (.inr (.inr (.inr (fun _ => none)))))), (cm, .inl (cW, 3, .inr (.inr (.inr (.inr (fun _ => none)))))), (fo, .inr (14, [.ref em, .int 0, .int 0]))]) [0, 1, 2, 3, 4, 5, 6] (by decide) rfl
  have hK9 := hK.sub (tys' := [(cC, .char), (x6, .byte), (cV, .object "PatchStore$Value"), (cW, .object "PatchStore$Value")]) [0, 1, 2, 3] rfl
  refine W.widen (k := 6) (n := 189) (Nat.le_of_ble_eq_true rfl) (Nat.le_of_ble_eq_true rfl) ?_
  exact W.vret hx hb hr (fun t ht hW => ⟨⟨(), rfl, trivial, ⟨dl, sb, dc, cm, fo, x5, cC, x6, cV, cW, by rw [ht]; exact hP9, va_K.moved hW.alike hK9, hD9⟩⟩, hS.F ht⟩) hS.2.2 d_PS_init_76
set_option maxHeartbeats 1000000 in
set_option maxRecDepth 100000 in
/-- documentAt(d) -/
theorem k_PS_documentAt (l : Launch) (dC : Nat → ClassId) (dI : Nat → Nat → Nat) (sz : Nat) (x : Nat) (lim : Int32) (rm : Int32) (dl : Nat) (sb : Nat) (dc : Nat) (cm : Nat) (fo : Nat) (n : Int32) (cV : ClassId) (g : Nat → Option Nat) (d : Int32) : Met l y_PS_documentAt ws_PS_documentAt ({ frames := 0, cells := 0, slots := 0, locals := 0 }) (va_Pc [.ref x, .int d] (fun U => U.heap.size = sz ∧ va_P (dC, dI) vwCl [(x, .inr (0, [.int lim, .int rm, .ref dl, .int n, .ref sb, .ref dc, .ref cm, .ref fo])), (dc, .inl (cV, 3, .inr (.inr (.inr (.inr g)))))] U.heap ∧ va_K (dC, dI) vwCl [(cV, .object "PatchStore$Value")] U ∧ va_D (fun _ => True) [(x, .inr (0, [.int lim, .int rm, .ref dl, .int n, .ref sb, .ref dc, .ref cm, .ref fo])), (dc, .inl (cV, 3, .inr (.inr (.inr (.inr g)))))])) (va_Qq (fun (r : Option Nat) (u : Unit) => r = da g d) (fun u t => va_P (dC, dI) vwCl [(x, .inr (0, [.int lim, .int rm, .ref dl, .int n, .ref sb, .ref dc, .ref cm, .ref fo])), (dc, .inl (cV, 3, .inr (.inr (.inr (.inr g)))))] t.heap ∧ va_K (dC, dI) vwCl [(cV, .object "PatchStore$Value")] t ∧ va_D (va_A [(x, .inr (0, [.int lim, .int rm, .ref dl, .int n, .ref sb, .ref dc, .ref cm, .ref fo])), (dc, .inl (cV, 3, .inr (.inr (.inr (.inr g)))))] sz) [(x, .inr (0, [.int lim, .int rm, .ref dl, .int n, .ref sb, .ref dc, .ref cm, .ref fo])), (dc, .inl (cV, 3, .inr (.inr (.inr (.inr g)))))]) (va_A [(x, .inr (0, [.int lim, .int rm, .ref dl, .int n, .ref sb, .ref dc, .ref cm, .ref fo])), (dc, .inl (cV, 3, .inr (.inr (.inr (.inr g)))))] sz)) 0 0 (va_A [(x, .inr (0, [.int lim, .int rm, .ref dl, .int n, .ref sb, .ref dc, .ref cm, .ref fo])), (dc, .inl (cV, 3, .inr (.inr (.inr (.inr g)))))] sz) := by
  refine Met.ofW (cc := c_PS_documentAt) (maxL := 2) (ret := (some (.object "PatchStore$Value"))) (by decide) rfl ?_
  intro p e s m args below meth c s₁ B hml hv
  obtain ⟨rfl, hsz, hP, hK, hD0⟩ := hv
  have hx := B.exec
  have hb := B.bytes
  have hr := B.returns
  have hts := atoms_spec (ws := ws_PS_documentAt) B.pre
  have htb := fun w (h : w ∈ TBL) => hts w (List.mem_cons_of_mem _ h)
  have hown : s.vm.findClass R_PS = some m.cls := findClass_of_methodNamed B.named
  have hlocks := B.notSynchronized
  subst hsz
  have hD := hD0.self (sz := s.heap.size)
  generalize hAe : va_A [(x, .inr (0, [.int lim, .int rm, .ref dl, .int n, .ref sb, .ref dc, .ref cm, .ref fo])), (dc, .inl (cV, 3, .inr (.inr (.inr (.inr g)))))] s.heap.size = A at hD ⊢
  have hA : ∀ q : Nat, s.heap.size ≤ q → A q := fun q h => by rw [← hAe]; exact Or.inr h
  have hS : va_S A s.heap s.heap [] := va_S.rf
  have hP : va_P (dC, dI) vwCl [(x, .inr (0, [.int lim, .int rm, .ref dl, .int n, .ref sb, .ref dc, .ref cm, .ref fo])), (dc, .inl (cV, 3, .inr (.inr (.inr (.inr g)))))] s.heap := hP
  have hl := lv_entry ([.ref x, .int d]) (n := 2) (Nat.le_of_ble_eq_true rfl)
  rw [lg_entry_eq]
  generalize (lg_sl ([.ref x, .int d]) ++ List.replicate (2 - (lg_sl ([.ref x, .int d])).length) Slot.unset).toArray = ls at hl ⊢
  have hl : lv_has ls 2 [(0, .ref x), (1, .int d)] := hl
  refine lv_iload_n hx hb d_PS_documentAt_0 rfl (lv_at hl 1 rfl) ?_
  refine lv_if_lt (tgt := 18) hx hb d_PS_documentAt_1 rfl (fun h1 => ?_) (fun h1 => ?_)
  · refine lv_null hx hb d_PS_documentAt_18 ?_
    have hP9 := hP.sub (ws' := [(x, .inr (0, [.int lim, .int rm, .ref dl, .int n, .ref sb, .ref dc, .ref cm, .ref fo])), (dc, .inl (cV, 3, .inr (.inr (.inr (.inr g)))))]) [0, 1] rfl
    have hD9 := hD.sub (ws' := [(x, .inr (0, [.int lim, .int rm, .ref dl, .int n, .ref sb, .ref dc, .ref cm, .ref fo])), (dc, .inl (cV, 3, .inr (.inr (.inr (.inr g)))))]) [0, 1] (by decide) rfl
    have hK9 := hK.sub (tys' := [(cV, .object "PatchStore$Value")]) [0] rfl
    refine W.widen (k := 0) (n := 0) (Nat.le_of_ble_eq_true rfl) (Nat.le_of_ble_eq_true rfl) ?_
    exact W.aret (v := .null) hx hb hr (Or.inl ⟨_, rfl⟩) (Or.inl rfl) (fun t ht hW => ⟨⟨none, (), rfl, by rw [da, if_pos h1], ⟨by rw [ht]; exact hP9, va_K.moved hW.alike hK9, hD9⟩⟩, hS.F ht⟩) hS.2.2 d_PS_documentAt_19
  · refine lv_iload_n hx hb d_PS_documentAt_4 rfl (lv_at hl 1 rfl) ?_
    refine lv_iconst (v := 3) hx hb d_PS_documentAt_5 (by decide) ?_
    refine lv_icmp_ge (tgt := 18) hx hb d_PS_documentAt_6 rfl (fun h2 => ?_) (fun h2 => ?_)
    · refine lv_null hx hb d_PS_documentAt_18 ?_
      have hP9 := hP.sub (ws' := [(x, .inr (0, [.int lim, .int rm, .ref dl, .int n, .ref sb, .ref dc, .ref cm, .ref fo])), (dc, .inl (cV, 3, .inr (.inr (.inr (.inr g)))))]) [0, 1] rfl
      have hD9 := hD.sub (ws' := [(x, .inr (0, [.int lim, .int rm, .ref dl, .int n, .ref sb, .ref dc, .ref cm, .ref fo])), (dc, .inl (cV, 3, .inr (.inr (.inr (.inr g)))))]) [0, 1] (by decide) rfl
      have hK9 := hK.sub (tys' := [(cV, .object "PatchStore$Value")]) [0] rfl
      refine W.widen (k := 0) (n := 0) (Nat.le_of_ble_eq_true rfl) (Nat.le_of_ble_eq_true rfl) ?_
      exact W.aret (v := .null) hx hb hr (Or.inl ⟨_, rfl⟩) (Or.inl rfl) (fun t ht hW => ⟨⟨none, (), rfl, by rw [da, if_neg h1, if_pos h2], ⟨by rw [ht]; exact hP9, va_K.moved hW.alike hK9, hD9⟩⟩, hS.F ht⟩) hS.2.2 d_PS_documentAt_19
    · refine lv_aload_n hx hb d_PS_documentAt_9 rfl (lv_at hl 0 rfl) ?_
      refine va_get (D := (dC, dI)) (ci := 0) (v := .ref dc) (C := R_PS) (T := T_PS) (N := 8) hx hb htb in_PS hown hK hP 0 rfl rfl 5 (by decide) (htb _ m_104) (fun _ h9 => h9) rfl d_PS_documentAt_10 ?_
      refine lv_iload_n hx hb d_PS_documentAt_13 rfl (lv_at hl 1 rfl) ?_
      refine va_aldq hx hb hK hP 1 0 rfl rfl (in3 h1 h2) d_PS_documentAt_14 ?_
      refine lv_goto (tgt := 19) hx hb d_PS_documentAt_15 rfl ?_
      have hP9 := hP.sub (ws' := [(x, .inr (0, [.int lim, .int rm, .ref dl, .int n, .ref sb, .ref dc, .ref cm, .ref fo])), (dc, .inl (cV, 3, .inr (.inr (.inr (.inr g)))))]) [0, 1] rfl
      have hD9 := hD.sub (ws' := [(x, .inr (0, [.int lim, .int rm, .ref dl, .int n, .ref sb, .ref dc, .ref cm, .ref fo])), (dc, .inl (cV, 3, .inr (.inr (.inr (.inr g)))))]) [0, 1] (by decide) rfl
      have hK9 := hK.sub (tys' := [(cV, .object "PatchStore$Value")]) [0] rfl
      refine W.widen (k := 0) (n := 0) (Nat.le_of_ble_eq_true rfl) (Nat.le_of_ble_eq_true rfl) ?_
      exact W.aret (v := va_rf (g d.toNatClampNeg)) hx hb hr (Or.inl ⟨_, rfl⟩) (by cases ((g d.toNatClampNeg)) with | none => exact Or.inl rfl | some a => exact Or.inr ⟨_, rfl⟩) (fun t ht hW => ⟨⟨(g d.toNatClampNeg), (), rfl, by rw [da, if_neg h1, if_neg h2], ⟨by rw [ht]; exact hP9, va_K.moved hW.alike hK9, hD9⟩⟩, hS.F ht⟩) hS.2.2 d_PS_documentAt_19
set_option maxHeartbeats 1000000 in
set_option maxRecDepth 100000 in
theorem k0_PS_delete (l : Launch) (dC : Nat → ClassId) (dI : Nat → Nat → Nat) (sz : Nat) (x : Nat) (lim : Int32) (rm : Int32) (dl : Nat) (sb : Nat) (dc : Nat) (cm : Nat) (fo : Nat) (n : Int32) (cV : ClassId) (d : Int32) : Met l y_PS_delete ws_PS_delete ({ frames := 1, cells := 0, slots := 0, locals := 21 }) (va_Pc [.ref x, .int d] (fun U => U.heap.size = sz ∧ va_P (dC, dI) vwCl [(x, .inr (0, [.int lim, .int rm, .ref dl, .int n, .ref sb, .ref dc, .ref cm, .ref fo])), (dc, .inl (cV, 3, .inr (.inr (.inr (.inr (fun _ => none))))))] U.heap ∧ va_K (dC, dI) vwCl [(cV, .object "PatchStore$Value")] U ∧ va_D (fun _ => True) [(x, .inr (0, [.int lim, .int rm, .ref dl, .int n, .ref sb, .ref dc, .ref cm, .ref fo])), (dc, .inl (cV, 3, .inr (.inr (.inr (.inr (fun _ => none))))))])) (va_Qi (fun (r : Int32) (u : Unit) => r = 0) (fun u t => va_P (dC, dI) vwCl [(x, .inr (0, [.int lim, .int rm, .ref dl, .int n, .ref sb, .ref dc, .ref cm, .ref fo])), (dc, .inl (cV, 3, .inr (.inr (.inr (.inr (fun _ => none))))))] t.heap ∧ va_K (dC, dI) vwCl [(cV, .object "PatchStore$Value")] t ∧ va_D (va_A [(x, .inr (0, [.int lim, .int rm, .ref dl, .int n, .ref sb, .ref dc, .ref cm, .ref fo])), (dc, .inl (cV, 3, .inr (.inr (.inr (.inr (fun _ => none))))))] sz) [(x, .inr (0, [.int lim, .int rm, .ref dl, .int n, .ref sb, .ref dc, .ref cm, .ref fo])), (dc, .inl (cV, 3, .inr (.inr (.inr (.inr (fun _ => none))))))]) (va_A [(x, .inr (0, [.int lim, .int rm, .ref dl, .int n, .ref sb, .ref dc, .ref cm, .ref fo])), (dc, .inl (cV, 3, .inr (.inr (.inr (.inr (fun _ => none))))))] sz)) 0 0 (va_A [(x, .inr (0, [.int lim, .int rm, .ref dl, .int n, .ref sb, .ref dc, .ref cm, .ref fo])), (dc, .inl (cV, 3, .inr (.inr (.inr (.inr (fun _ => none))))))] sz) := by
  refine Met.ofW (cc := c_PS_delete) (maxL := 2) (ret := (some .boolean)) (by decide) rfl ?_
  intro p e s m args below meth c s₁ B hml hv
  obtain ⟨rfl, hsz, hP, hK, hD0⟩ := hv
  have hx := B.exec
  have hb := B.bytes
  have hr := B.returns
  have hts := atoms_spec (ws := ws_PS_delete) B.pre
  have htb := fun w (h : w ∈ TBL) => hts w (List.mem_cons_of_mem _ h)
  have hown : s.vm.findClass R_PS = some m.cls := findClass_of_methodNamed B.named
  have hlocks := B.notSynchronized
  subst hsz
  have hD := hD0.self (sz := s.heap.size)
  generalize hAe : va_A [(x, .inr (0, [.int lim, .int rm, .ref dl, .int n, .ref sb, .ref dc, .ref cm, .ref fo])), (dc, .inl (cV, 3, .inr (.inr (.inr (.inr (fun _ => none))))))] s.heap.size = A at hD ⊢
  have hA : ∀ q : Nat, s.heap.size ≤ q → A q := fun q h => by rw [← hAe]; exact Or.inr h
  have hS : va_S A s.heap s.heap [] := va_S.rf
  have hP : va_P (dC, dI) vwCl [(x, .inr (0, [.int lim, .int rm, .ref dl, .int n, .ref sb, .ref dc, .ref cm, .ref fo])), (dc, .inl (cV, 3, .inr (.inr (.inr (.inr (fun _ => none))))))] s.heap := hP
  have hl := lv_entry ([.ref x, .int d]) (n := 2) (Nat.le_of_ble_eq_true rfl)
  rw [lg_entry_eq]
  generalize (lg_sl ([.ref x, .int d]) ++ List.replicate (2 - (lg_sl ([.ref x, .int d])).length) Slot.unset).toArray = ls at hl ⊢
  have hl : lv_has ls 2 [(0, .ref x), (1, .int d)] := hl
  refine lv_aload_n hx hb d_PS_delete_0 rfl (lv_at hl 0 rfl) ?_
  refine lv_iload_n hx hb d_PS_delete_1 rfl (lv_at hl 1 rfl) ?_
  have hPc := hP.sub (ws' := [(x, .inr (0, [.int lim, .int rm, .ref dl, .int n, .ref sb, .ref dc, .ref cm, .ref fo])), (dc, .inl (cV, 3, .inr (.inr (.inr (.inr (fun _ => none))))))]) [0, 1] rfl
  have hDc := hD.sub (ws' := [(x, .inr (0, [.int lim, .int rm, .ref dl, .int n, .ref sb, .ref dc, .ref cm, .ref fo])), (dc, .inl (cV, 3, .inr (.inr (.inr (.inr (fun _ => none))))))]) [0, 1] (by decide) rfl
  have hKc := hK.sub (tys' := [(cV, .object "PatchStore$Value")]) [0] rfl
  have hFc := va_free (wc := [(x, .inr (0, [.int lim, .int rm, .ref dl, .int n, .ref sb, .ref dc, .ref cm, .ref fo])), (dc, .inl (cV, 3, .inr (.inr (.inr (.inr (fun _ => none))))))]) hD hS hA [0, 1] rfl
  refine va_callq (va_runV (As := [.int d]) (rest := []) ⟨hx, hb, hml, hown, htb⟩ (k_PS_documentAt l dC dI _ x lim rm dl sb dc cm fo n cV (fun _ => none) d ) (cwV 1 htb (g_V (fun _ h => h) m_577 m_574 m_576 m_1633 m_1) rfl rfl rfl (by decide +kernel) ⟨Nat.le_of_ble_eq_true rfl, Nat.le_of_ble_eq_true rfl⟩) ⟨fun a U g mk q => by obtain ⟨q0, q1, qP, qK, qD⟩ := q; exact ⟨q0, q1, qP, va_K.moved (u := U) (U := U.calling g mk a) (Vm.Alike.refl U.vm) qK, qD⟩, va_recv hK hP (ci := 0) rfl (q0 := 0) rfl, fun U hU hW => ⟨rfl, by rw [hU], by rw [hU]; exact hPc, va_K.moved hW.alike hKc, hDc.weaken (fun _ _ _ _ => trivial)⟩⟩ rfl rfl hl.1 rfl (lv_room (Nat.le_of_ble_eq_true rfl)) d_PS_delete_2 ⟨Nat.le_of_ble_eq_true rfl, Nat.le_of_ble_eq_true rfl⟩) hS (fun q _ h => hFc q h) hFc (fun r2 u1 t H1 locs ht hvm hw3 hB hz1 hk1 hS => ?_)
  obtain ⟨hP1, hK1, hD1⟩ := hB
  rw [ht] at hP1
  have hK1 := va_K.moved hvm.symm hK1
  have hw3 : r2 = da (fun _ => none) d := hw3
  obtain ⟨hP, hD⟩ := va_join (wr := []) (w1 := [(x, .inr (0, [.int lim, .int rm, .ref dl, .int n, .ref sb, .ref dc, .ref cm, .ref fo])), (dc, .inl (cV, 3, .inr (.inr (.inr (.inr (fun _ => none))))))]) hP hD [0, 1] [] rfl rfl (by decide) (by decide) hk1 hFc hP1 hD1
  have hK := (hK.sub (tys' := []) [] rfl).app hK1
  generalize H1 = H at hP hS ⊢
  have hP : va_P (dC, dI) vwCl [(x, .inr (0, [.int lim, .int rm, .ref dl, .int n, .ref sb, .ref dc, .ref cm, .ref fo])), (dc, .inl (cV, 3, .inr (.inr (.inr (.inr (fun _ => none))))))] H := hP
  have hD : va_D A [(x, .inr (0, [.int lim, .int rm, .ref dl, .int n, .ref sb, .ref dc, .ref cm, .ref fo])), (dc, .inl (cV, 3, .inr (.inr (.inr (.inr (fun _ => none))))))] := hD
  have hK : va_K (dC, dI) vwCl [(cV, .object "PatchStore$Value")] s := hK
  obtain rfl : r2 = none := by rw [hw3]; exact da_none _
  refine W.eq (g2 := F0 m 5 ls [.null]) rfl ?_
  refine lv_ifnonnullN hx hb d_PS_delete_5 ?_
  refine lv_iconst (v := 0) hx hb d_PS_delete_8 (by decide) ?_
  have hP9 := hP.sub (ws' := [(x, .inr (0, [.int lim, .int rm, .ref dl, .int n, .ref sb, .ref dc, .ref cm, .ref fo])), (dc, .inl (cV, 3, .inr (.inr (.inr (.inr (fun _ => none))))))]) [0, 1] rfl
  have hD9 := hD.sub (ws' := [(x, .inr (0, [.int lim, .int rm, .ref dl, .int n, .ref sb, .ref dc, .ref cm, .ref fo])), (dc, .inl (cV, 3, .inr (.inr (.inr (.inr (fun _ => none))))))]) [0, 1] (by decide) rfl
  have hK9 := hK.sub (tys' := [(cV, .object "PatchStore$Value")]) [0] rfl
  refine W.widen (k := 0) (n := 0) (Nat.le_of_ble_eq_true rfl) (Nat.le_of_ble_eq_true rfl) ?_
  exact W.zret (v := 0) hx hb hr (by decide) (fun t ht hW => ⟨⟨0, (), rfl, rfl, ⟨by rw [ht]; exact hP9, va_K.moved hW.alike hK9, hD9⟩⟩, hS.F ht⟩) hS.2.2 d_PS_delete_9
set_option maxHeartbeats 1000000 in
set_option maxRecDepth 100000 in
theorem k0_PS_depth (l : Launch) (dC : Nat → ClassId) (dI : Nat → Nat → Nat) (sz : Nat) (x : Nat) (lim : Int32) (rm : Int32) (dl : Nat) (sb : Nat) (dc : Nat) (cm : Nat) (fo : Nat) (n : Int32) (cV : ClassId) (d : Int32) : Met l y_PS_depth ws_PS_depth ({ frames := 1, cells := 0, slots := 0, locals := 21 }) (va_Pc [.ref x, .int d] (fun U => U.heap.size = sz ∧ va_P (dC, dI) vwCl [(x, .inr (0, [.int lim, .int rm, .ref dl, .int n, .ref sb, .ref dc, .ref cm, .ref fo])), (dc, .inl (cV, 3, .inr (.inr (.inr (.inr (fun _ => none))))))] U.heap ∧ va_K (dC, dI) vwCl [(cV, .object "PatchStore$Value")] U ∧ va_D (fun _ => True) [(x, .inr (0, [.int lim, .int rm, .ref dl, .int n, .ref sb, .ref dc, .ref cm, .ref fo])), (dc, .inl (cV, 3, .inr (.inr (.inr (.inr (fun _ => none))))))])) (va_Qi (fun (r : Int32) (u : Unit) => r = -1) (fun u t => va_P (dC, dI) vwCl [(x, .inr (0, [.int lim, .int rm, .ref dl, .int n, .ref sb, .ref dc, .ref cm, .ref fo])), (dc, .inl (cV, 3, .inr (.inr (.inr (.inr (fun _ => none))))))] t.heap ∧ va_K (dC, dI) vwCl [(cV, .object "PatchStore$Value")] t ∧ va_D (va_A [(x, .inr (0, [.int lim, .int rm, .ref dl, .int n, .ref sb, .ref dc, .ref cm, .ref fo])), (dc, .inl (cV, 3, .inr (.inr (.inr (.inr (fun _ => none))))))] sz) [(x, .inr (0, [.int lim, .int rm, .ref dl, .int n, .ref sb, .ref dc, .ref cm, .ref fo])), (dc, .inl (cV, 3, .inr (.inr (.inr (.inr (fun _ => none))))))]) (va_A [(x, .inr (0, [.int lim, .int rm, .ref dl, .int n, .ref sb, .ref dc, .ref cm, .ref fo])), (dc, .inl (cV, 3, .inr (.inr (.inr (.inr (fun _ => none))))))] sz)) 0 0 (va_A [(x, .inr (0, [.int lim, .int rm, .ref dl, .int n, .ref sb, .ref dc, .ref cm, .ref fo])), (dc, .inl (cV, 3, .inr (.inr (.inr (.inr (fun _ => none))))))] sz) := by
  refine Met.ofW (cc := c_PS_depth) (maxL := 3) (ret := (some .int)) (by decide) rfl ?_
  intro p e s m args below meth c s₁ B hml hv
  obtain ⟨rfl, hsz, hP, hK, hD0⟩ := hv
  have hx := B.exec
  have hb := B.bytes
  have hr := B.returns
  have hts := atoms_spec (ws := ws_PS_depth) B.pre
  have htb := fun w (h : w ∈ TBL) => hts w (List.mem_cons_of_mem _ h)
  have hown : s.vm.findClass R_PS = some m.cls := findClass_of_methodNamed B.named
  have hlocks := B.notSynchronized
  subst hsz
  have hD := hD0.self (sz := s.heap.size)
  generalize hAe : va_A [(x, .inr (0, [.int lim, .int rm, .ref dl, .int n, .ref sb, .ref dc, .ref cm, .ref fo])), (dc, .inl (cV, 3, .inr (.inr (.inr (.inr (fun _ => none))))))] s.heap.size = A at hD ⊢
  have hA : ∀ q : Nat, s.heap.size ≤ q → A q := fun q h => by rw [← hAe]; exact Or.inr h
  have hS : va_S A s.heap s.heap [] := va_S.rf
  have hP : va_P (dC, dI) vwCl [(x, .inr (0, [.int lim, .int rm, .ref dl, .int n, .ref sb, .ref dc, .ref cm, .ref fo])), (dc, .inl (cV, 3, .inr (.inr (.inr (.inr (fun _ => none))))))] s.heap := hP
  have hl := lv_entry ([.ref x, .int d]) (n := 3) (Nat.le_of_ble_eq_true rfl)
  rw [lg_entry_eq]
  generalize (lg_sl ([.ref x, .int d]) ++ List.replicate (3 - (lg_sl ([.ref x, .int d])).length) Slot.unset).toArray = ls at hl ⊢
  have hl : lv_has ls 3 [(0, .ref x), (1, .int d)] := hl
  refine lv_aload_n hx hb d_PS_depth_0 rfl (lv_at hl 0 rfl) ?_
  refine lv_iload_n hx hb d_PS_depth_1 rfl (lv_at hl 1 rfl) ?_
  have hPc := hP.sub (ws' := [(x, .inr (0, [.int lim, .int rm, .ref dl, .int n, .ref sb, .ref dc, .ref cm, .ref fo])), (dc, .inl (cV, 3, .inr (.inr (.inr (.inr (fun _ => none))))))]) [0, 1] rfl
  have hDc := hD.sub (ws' := [(x, .inr (0, [.int lim, .int rm, .ref dl, .int n, .ref sb, .ref dc, .ref cm, .ref fo])), (dc, .inl (cV, 3, .inr (.inr (.inr (.inr (fun _ => none))))))]) [0, 1] (by decide) rfl
  have hKc := hK.sub (tys' := [(cV, .object "PatchStore$Value")]) [0] rfl
  have hFc := va_free (wc := [(x, .inr (0, [.int lim, .int rm, .ref dl, .int n, .ref sb, .ref dc, .ref cm, .ref fo])), (dc, .inl (cV, 3, .inr (.inr (.inr (.inr (fun _ => none))))))]) hD hS hA [0, 1] rfl
  refine va_callq (va_runV (As := [.int d]) (rest := []) ⟨hx, hb, hml, hown, htb⟩ (k_PS_documentAt l dC dI _ x lim rm dl sb dc cm fo n cV (fun _ => none) d ) (cwV 1 htb (g_V (fun _ h => h) m_577 m_574 m_576 m_1633 m_1) rfl rfl rfl (by decide +kernel) ⟨Nat.le_of_ble_eq_true rfl, Nat.le_of_ble_eq_true rfl⟩) ⟨fun a U g mk q => by obtain ⟨q0, q1, qP, qK, qD⟩ := q; exact ⟨q0, q1, qP, va_K.moved (u := U) (U := U.calling g mk a) (Vm.Alike.refl U.vm) qK, qD⟩, va_recv hK hP (ci := 0) rfl (q0 := 0) rfl, fun U hU hW => ⟨rfl, by rw [hU], by rw [hU]; exact hPc, va_K.moved hW.alike hKc, hDc.weaken (fun _ _ _ _ => trivial)⟩⟩ rfl rfl hl.1 rfl (lv_room (Nat.le_of_ble_eq_true rfl)) d_PS_depth_2 ⟨Nat.le_of_ble_eq_true rfl, Nat.le_of_ble_eq_true rfl⟩) hS (fun q _ h => hFc q h) hFc (fun r2 u1 t H1 locs ht hvm hw3 hB hz1 hk1 hS => ?_)
  obtain ⟨hP1, hK1, hD1⟩ := hB
  rw [ht] at hP1
  have hK1 := va_K.moved hvm.symm hK1
  have hw3 : r2 = da (fun _ => none) d := hw3
  obtain ⟨hP, hD⟩ := va_join (wr := []) (w1 := [(x, .inr (0, [.int lim, .int rm, .ref dl, .int n, .ref sb, .ref dc, .ref cm, .ref fo])), (dc, .inl (cV, 3, .inr (.inr (.inr (.inr (fun _ => none))))))]) hP hD [0, 1] [] rfl rfl (by decide) (by decide) hk1 hFc hP1 hD1
  have hK := (hK.sub (tys' := []) [] rfl).app hK1
  generalize H1 = H at hP hS ⊢
  have hP : va_P (dC, dI) vwCl [(x, .inr (0, [.int lim, .int rm, .ref dl, .int n, .ref sb, .ref dc, .ref cm, .ref fo])), (dc, .inl (cV, 3, .inr (.inr (.inr (.inr (fun _ => none))))))] H := hP
  have hD : va_D A [(x, .inr (0, [.int lim, .int rm, .ref dl, .int n, .ref sb, .ref dc, .ref cm, .ref fo])), (dc, .inl (cV, 3, .inr (.inr (.inr (.inr (fun _ => none))))))] := hD
  have hK : va_K (dC, dI) vwCl [(cV, .object "PatchStore$Value")] s := hK
  obtain rfl : r2 = none := by rw [hw3]; exact da_none _
  refine W.eq (g2 := F0 m 5 ls [.null]) rfl ?_
  refine lv_astore_nN hx hb d_PS_depth_5 rfl hl (by decide) rfl (fun ls hl => ?_)
  have hl : lv_has ls 3 [(2, .null), (0, .ref x), (1, .int d)] := hl
  refine lv_aload_nN hx hb d_PS_depth_6 rfl (lv_at hl 0 rfl) ?_
  refine lv_ifnonnullN hx hb d_PS_depth_7 ?_
  refine lv_iconst (v := (-1)) hx hb d_PS_depth_10 (by decide) ?_
  refine lv_goto (tgt := 18) hx hb d_PS_depth_11 rfl ?_
  have hP9 := hP.sub (ws' := [(x, .inr (0, [.int lim, .int rm, .ref dl, .int n, .ref sb, .ref dc, .ref cm, .ref fo])), (dc, .inl (cV, 3, .inr (.inr (.inr (.inr (fun _ => none))))))]) [0, 1] rfl
  have hD9 := hD.sub (ws' := [(x, .inr (0, [.int lim, .int rm, .ref dl, .int n, .ref sb, .ref dc, .ref cm, .ref fo])), (dc, .inl (cV, 3, .inr (.inr (.inr (.inr (fun _ => none))))))]) [0, 1] (by decide) rfl
  have hK9 := hK.sub (tys' := [(cV, .object "PatchStore$Value")]) [0] rfl
  refine W.widen (k := 0) (n := 0) (Nat.le_of_ble_eq_true rfl) (Nat.le_of_ble_eq_true rfl) ?_
  exact W.iret (v := (-1)) hx hb hr (fun t ht hW => ⟨⟨(-1), (), rfl, rfl, ⟨by rw [ht]; exact hP9, va_K.moved hW.alike hK9, hD9⟩⟩, hS.F ht⟩) hS.2.2 d_PS_depth_18
set_option maxHeartbeats 1000000 in
set_option maxRecDepth 100000 in
theorem k0_PS_count (l : Launch) (dC : Nat → ClassId) (dI : Nat → Nat → Nat) (sz : Nat) (x : Nat) (lim : Int32) (rm : Int32) (dl : Nat) (sb : Nat) (dc : Nat) (cm : Nat) (fo : Nat) (n : Int32) (cV : ClassId) (d : Int32) : Met l y_PS_count ws_PS_count ({ frames := 1, cells := 0, slots := 0, locals := 21 }) (va_Pc [.ref x, .int d] (fun U => U.heap.size = sz ∧ va_P (dC, dI) vwCl [(x, .inr (0, [.int lim, .int rm, .ref dl, .int n, .ref sb, .ref dc, .ref cm, .ref fo])), (dc, .inl (cV, 3, .inr (.inr (.inr (.inr (fun _ => none))))))] U.heap ∧ va_K (dC, dI) vwCl [(cV, .object "PatchStore$Value")] U ∧ va_D (fun _ => True) [(x, .inr (0, [.int lim, .int rm, .ref dl, .int n, .ref sb, .ref dc, .ref cm, .ref fo])), (dc, .inl (cV, 3, .inr (.inr (.inr (.inr (fun _ => none))))))])) (va_Qi (fun (r : Int32) (u : Unit) => r = 0) (fun u t => va_P (dC, dI) vwCl [(x, .inr (0, [.int lim, .int rm, .ref dl, .int n, .ref sb, .ref dc, .ref cm, .ref fo])), (dc, .inl (cV, 3, .inr (.inr (.inr (.inr (fun _ => none))))))] t.heap ∧ va_K (dC, dI) vwCl [(cV, .object "PatchStore$Value")] t ∧ va_D (va_A [(x, .inr (0, [.int lim, .int rm, .ref dl, .int n, .ref sb, .ref dc, .ref cm, .ref fo])), (dc, .inl (cV, 3, .inr (.inr (.inr (.inr (fun _ => none))))))] sz) [(x, .inr (0, [.int lim, .int rm, .ref dl, .int n, .ref sb, .ref dc, .ref cm, .ref fo])), (dc, .inl (cV, 3, .inr (.inr (.inr (.inr (fun _ => none))))))]) (va_A [(x, .inr (0, [.int lim, .int rm, .ref dl, .int n, .ref sb, .ref dc, .ref cm, .ref fo])), (dc, .inl (cV, 3, .inr (.inr (.inr (.inr (fun _ => none))))))] sz)) 0 0 (va_A [(x, .inr (0, [.int lim, .int rm, .ref dl, .int n, .ref sb, .ref dc, .ref cm, .ref fo])), (dc, .inl (cV, 3, .inr (.inr (.inr (.inr (fun _ => none))))))] sz) := by
  refine Met.ofW (cc := c_PS_count) (maxL := 3) (ret := (some .int)) (by decide) rfl ?_
  intro p e s m args below meth c s₁ B hml hv
  obtain ⟨rfl, hsz, hP, hK, hD0⟩ := hv
  have hx := B.exec
  have hb := B.bytes
  have hr := B.returns
  have hts := atoms_spec (ws := ws_PS_count) B.pre
  have htb := fun w (h : w ∈ TBL) => hts w (List.mem_cons_of_mem _ h)
  have hown : s.vm.findClass R_PS = some m.cls := findClass_of_methodNamed B.named
  have hlocks := B.notSynchronized
  subst hsz
  have hD := hD0.self (sz := s.heap.size)
  generalize hAe : va_A [(x, .inr (0, [.int lim, .int rm, .ref dl, .int n, .ref sb, .ref dc, .ref cm, .ref fo])), (dc, .inl (cV, 3, .inr (.inr (.inr (.inr (fun _ => none))))))] s.heap.size = A at hD ⊢
  have hA : ∀ q : Nat, s.heap.size ≤ q → A q := fun q h => by rw [← hAe]; exact Or.inr h
  have hS : va_S A s.heap s.heap [] := va_S.rf
  have hP : va_P (dC, dI) vwCl [(x, .inr (0, [.int lim, .int rm, .ref dl, .int n, .ref sb, .ref dc, .ref cm, .ref fo])), (dc, .inl (cV, 3, .inr (.inr (.inr (.inr (fun _ => none))))))] s.heap := hP
  have hl := lv_entry ([.ref x, .int d]) (n := 3) (Nat.le_of_ble_eq_true rfl)
  rw [lg_entry_eq]
  generalize (lg_sl ([.ref x, .int d]) ++ List.replicate (3 - (lg_sl ([.ref x, .int d])).length) Slot.unset).toArray = ls at hl ⊢
  have hl : lv_has ls 3 [(0, .ref x), (1, .int d)] := hl
  refine lv_aload_n hx hb d_PS_count_0 rfl (lv_at hl 0 rfl) ?_
  refine lv_iload_n hx hb d_PS_count_1 rfl (lv_at hl 1 rfl) ?_
  have hPc := hP.sub (ws' := [(x, .inr (0, [.int lim, .int rm, .ref dl, .int n, .ref sb, .ref dc, .ref cm, .ref fo])), (dc, .inl (cV, 3, .inr (.inr (.inr (.inr (fun _ => none))))))]) [0, 1] rfl
  have hDc := hD.sub (ws' := [(x, .inr (0, [.int lim, .int rm, .ref dl, .int n, .ref sb, .ref dc, .ref cm, .ref fo])), (dc, .inl (cV, 3, .inr (.inr (.inr (.inr (fun _ => none))))))]) [0, 1] (by decide) rfl
  have hKc := hK.sub (tys' := [(cV, .object "PatchStore$Value")]) [0] rfl
  have hFc := va_free (wc := [(x, .inr (0, [.int lim, .int rm, .ref dl, .int n, .ref sb, .ref dc, .ref cm, .ref fo])), (dc, .inl (cV, 3, .inr (.inr (.inr (.inr (fun _ => none))))))]) hD hS hA [0, 1] rfl
  refine va_callq (va_runV (As := [.int d]) (rest := []) ⟨hx, hb, hml, hown, htb⟩ (k_PS_documentAt l dC dI _ x lim rm dl sb dc cm fo n cV (fun _ => none) d ) (cwV 1 htb (g_V (fun _ h => h) m_577 m_574 m_576 m_1633 m_1) rfl rfl rfl (by decide +kernel) ⟨Nat.le_of_ble_eq_true rfl, Nat.le_of_ble_eq_true rfl⟩) ⟨fun a U g mk q => by obtain ⟨q0, q1, qP, qK, qD⟩ := q; exact ⟨q0, q1, qP, va_K.moved (u := U) (U := U.calling g mk a) (Vm.Alike.refl U.vm) qK, qD⟩, va_recv hK hP (ci := 0) rfl (q0 := 0) rfl, fun U hU hW => ⟨rfl, by rw [hU], by rw [hU]; exact hPc, va_K.moved hW.alike hKc, hDc.weaken (fun _ _ _ _ => trivial)⟩⟩ rfl rfl hl.1 rfl (lv_room (Nat.le_of_ble_eq_true rfl)) d_PS_count_2 ⟨Nat.le_of_ble_eq_true rfl, Nat.le_of_ble_eq_true rfl⟩) hS (fun q _ h => hFc q h) hFc (fun r2 u1 t H1 locs ht hvm hw3 hB hz1 hk1 hS => ?_)
  obtain ⟨hP1, hK1, hD1⟩ := hB
  rw [ht] at hP1
  have hK1 := va_K.moved hvm.symm hK1
  have hw3 : r2 = da (fun _ => none) d := hw3
  obtain ⟨hP, hD⟩ := va_join (wr := []) (w1 := [(x, .inr (0, [.int lim, .int rm, .ref dl, .int n, .ref sb, .ref dc, .ref cm, .ref fo])), (dc, .inl (cV, 3, .inr (.inr (.inr (.inr (fun _ => none))))))]) hP hD [0, 1] [] rfl rfl (by decide) (by decide) hk1 hFc hP1 hD1
  have hK := (hK.sub (tys' := []) [] rfl).app hK1
  generalize H1 = H at hP hS ⊢
  have hP : va_P (dC, dI) vwCl [(x, .inr (0, [.int lim, .int rm, .ref dl, .int n, .ref sb, .ref dc, .ref cm, .ref fo])), (dc, .inl (cV, 3, .inr (.inr (.inr (.inr (fun _ => none))))))] H := hP
  have hD : va_D A [(x, .inr (0, [.int lim, .int rm, .ref dl, .int n, .ref sb, .ref dc, .ref cm, .ref fo])), (dc, .inl (cV, 3, .inr (.inr (.inr (.inr (fun _ => none))))))] := hD
  have hK : va_K (dC, dI) vwCl [(cV, .object "PatchStore$Value")] s := hK
  obtain rfl : r2 = none := by rw [hw3]; exact da_none _
  refine W.eq (g2 := F0 m 5 ls [.null]) rfl ?_
  refine lv_astore_nN hx hb d_PS_count_5 rfl hl (by decide) rfl (fun ls hl => ?_)
  have hl : lv_has ls 3 [(2, .null), (0, .ref x), (1, .int d)] := hl
  refine lv_aload_nN hx hb d_PS_count_6 rfl (lv_at hl 0 rfl) ?_
  refine lv_ifnonnullN hx hb d_PS_count_7 ?_
  refine lv_iconst (v := 0) hx hb d_PS_count_10 (by decide) ?_
  refine lv_goto (tgt := 18) hx hb d_PS_count_11 rfl ?_
  have hP9 := hP.sub (ws' := [(x, .inr (0, [.int lim, .int rm, .ref dl, .int n, .ref sb, .ref dc, .ref cm, .ref fo])), (dc, .inl (cV, 3, .inr (.inr (.inr (.inr (fun _ => none))))))]) [0, 1] rfl
  have hD9 := hD.sub (ws' := [(x, .inr (0, [.int lim, .int rm, .ref dl, .int n, .ref sb, .ref dc, .ref cm, .ref fo])), (dc, .inl (cV, 3, .inr (.inr (.inr (.inr (fun _ => none))))))]) [0, 1] (by decide) rfl
  have hK9 := hK.sub (tys' := [(cV, .object "PatchStore$Value")]) [0] rfl
  refine W.widen (k := 0) (n := 0) (Nat.le_of_ble_eq_true rfl) (Nat.le_of_ble_eq_true rfl) ?_
  exact W.iret (v := 0) hx hb hr (fun t ht hW => ⟨⟨0, (), rfl, rfl, ⟨by rw [ht]; exact hP9, va_K.moved hW.alike hK9, hD9⟩⟩, hS.F ht⟩) hS.2.2 d_PS_count_18
set_option maxHeartbeats 1000000 in
set_option maxRecDepth 100000 in
theorem k0_PS_length (l : Launch) (dC : Nat → ClassId) (dI : Nat → Nat → Nat) (sz : Nat) (x : Nat) (lim : Int32) (rm : Int32) (dl : Nat) (sb : Nat) (dc : Nat) (cm : Nat) (fo : Nat) (n : Int32) (cV : ClassId) (d : Int32) : Met l y_PS_length ws_PS_length ({ frames := 1, cells := 0, slots := 0, locals := 21 }) (va_Pc [.ref x, .int d] (fun U => U.heap.size = sz ∧ va_P (dC, dI) vwCl [(x, .inr (0, [.int lim, .int rm, .ref dl, .int n, .ref sb, .ref dc, .ref cm, .ref fo])), (dc, .inl (cV, 3, .inr (.inr (.inr (.inr (fun _ => none))))))] U.heap ∧ va_K (dC, dI) vwCl [(cV, .object "PatchStore$Value")] U ∧ va_D (fun _ => True) [(x, .inr (0, [.int lim, .int rm, .ref dl, .int n, .ref sb, .ref dc, .ref cm, .ref fo])), (dc, .inl (cV, 3, .inr (.inr (.inr (.inr (fun _ => none))))))])) (va_Qi (fun (r : Int32) (u : Unit) => r = -1) (fun u t => va_P (dC, dI) vwCl [(x, .inr (0, [.int lim, .int rm, .ref dl, .int n, .ref sb, .ref dc, .ref cm, .ref fo])), (dc, .inl (cV, 3, .inr (.inr (.inr (.inr (fun _ => none))))))] t.heap ∧ va_K (dC, dI) vwCl [(cV, .object "PatchStore$Value")] t ∧ va_D (va_A [(x, .inr (0, [.int lim, .int rm, .ref dl, .int n, .ref sb, .ref dc, .ref cm, .ref fo])), (dc, .inl (cV, 3, .inr (.inr (.inr (.inr (fun _ => none))))))] sz) [(x, .inr (0, [.int lim, .int rm, .ref dl, .int n, .ref sb, .ref dc, .ref cm, .ref fo])), (dc, .inl (cV, 3, .inr (.inr (.inr (.inr (fun _ => none))))))]) (va_A [(x, .inr (0, [.int lim, .int rm, .ref dl, .int n, .ref sb, .ref dc, .ref cm, .ref fo])), (dc, .inl (cV, 3, .inr (.inr (.inr (.inr (fun _ => none))))))] sz)) 0 0 (va_A [(x, .inr (0, [.int lim, .int rm, .ref dl, .int n, .ref sb, .ref dc, .ref cm, .ref fo])), (dc, .inl (cV, 3, .inr (.inr (.inr (.inr (fun _ => none))))))] sz) := by
  refine Met.ofW (cc := c_PS_length) (maxL := 4) (ret := (some .int)) (by decide) rfl ?_
  intro p e s m args below meth c s₁ B hml hv
  obtain ⟨rfl, hsz, hP, hK, hD0⟩ := hv
  have hx := B.exec
  have hb := B.bytes
  have hr := B.returns
  have hts := atoms_spec (ws := ws_PS_length) B.pre
  have htb := fun w (h : w ∈ TBL) => hts w (List.mem_cons_of_mem _ h)
  have hown : s.vm.findClass R_PS = some m.cls := findClass_of_methodNamed B.named
  have hlocks := B.notSynchronized
  subst hsz
  have hD := hD0.self (sz := s.heap.size)
  generalize hAe : va_A [(x, .inr (0, [.int lim, .int rm, .ref dl, .int n, .ref sb, .ref dc, .ref cm, .ref fo])), (dc, .inl (cV, 3, .inr (.inr (.inr (.inr (fun _ => none))))))] s.heap.size = A at hD ⊢
  have hA : ∀ q : Nat, s.heap.size ≤ q → A q := fun q h => by rw [← hAe]; exact Or.inr h
  have hS : va_S A s.heap s.heap [] := va_S.rf
  have hP : va_P (dC, dI) vwCl [(x, .inr (0, [.int lim, .int rm, .ref dl, .int n, .ref sb, .ref dc, .ref cm, .ref fo])), (dc, .inl (cV, 3, .inr (.inr (.inr (.inr (fun _ => none))))))] s.heap := hP
  have hl := lv_entry ([.ref x, .int d]) (n := 4) (Nat.le_of_ble_eq_true rfl)
  rw [lg_entry_eq]
  generalize (lg_sl ([.ref x, .int d]) ++ List.replicate (4 - (lg_sl ([.ref x, .int d])).length) Slot.unset).toArray = ls at hl ⊢
  have hl : lv_has ls 4 [(0, .ref x), (1, .int d)] := hl
  refine lv_aload_n hx hb d_PS_length_0 rfl (lv_at hl 0 rfl) ?_
  refine lv_iload_n hx hb d_PS_length_1 rfl (lv_at hl 1 rfl) ?_
  have hPc := hP.sub (ws' := [(x, .inr (0, [.int lim, .int rm, .ref dl, .int n, .ref sb, .ref dc, .ref cm, .ref fo])), (dc, .inl (cV, 3, .inr (.inr (.inr (.inr (fun _ => none))))))]) [0, 1] rfl
  have hDc := hD.sub (ws' := [(x, .inr (0, [.int lim, .int rm, .ref dl, .int n, .ref sb, .ref dc, .ref cm, .ref fo])), (dc, .inl (cV, 3, .inr (.inr (.inr (.inr (fun _ => none))))))]) [0, 1] (by decide) rfl
  have hKc := hK.sub (tys' := [(cV, .object "PatchStore$Value")]) [0] rfl
  have hFc := va_free (wc := [(x, .inr (0, [.int lim, .int rm, .ref dl, .int n, .ref sb, .ref dc, .ref cm, .ref fo])), (dc, .inl (cV, 3, .inr (.inr (.inr (.inr (fun _ => none))))))]) hD hS hA [0, 1] rfl
  refine va_callq (va_runV (As := [.int d]) (rest := []) ⟨hx, hb, hml, hown, htb⟩ (k_PS_documentAt l dC dI _ x lim rm dl sb dc cm fo n cV (fun _ => none) d ) (cwV 1 htb (g_V (fun _ h => h) m_577 m_574 m_576 m_1633 m_1) rfl rfl rfl (by decide +kernel) ⟨Nat.le_of_ble_eq_true rfl, Nat.le_of_ble_eq_true rfl⟩) ⟨fun a U g mk q => by obtain ⟨q0, q1, qP, qK, qD⟩ := q; exact ⟨q0, q1, qP, va_K.moved (u := U) (U := U.calling g mk a) (Vm.Alike.refl U.vm) qK, qD⟩, va_recv hK hP (ci := 0) rfl (q0 := 0) rfl, fun U hU hW => ⟨rfl, by rw [hU], by rw [hU]; exact hPc, va_K.moved hW.alike hKc, hDc.weaken (fun _ _ _ _ => trivial)⟩⟩ rfl rfl hl.1 rfl (lv_room (Nat.le_of_ble_eq_true rfl)) d_PS_length_2 ⟨Nat.le_of_ble_eq_true rfl, Nat.le_of_ble_eq_true rfl⟩) hS (fun q _ h => hFc q h) hFc (fun r2 u1 t H1 locs ht hvm hw3 hB hz1 hk1 hS => ?_)
  obtain ⟨hP1, hK1, hD1⟩ := hB
  rw [ht] at hP1
  have hK1 := va_K.moved hvm.symm hK1
  have hw3 : r2 = da (fun _ => none) d := hw3
  obtain ⟨hP, hD⟩ := va_join (wr := []) (w1 := [(x, .inr (0, [.int lim, .int rm, .ref dl, .int n, .ref sb, .ref dc, .ref cm, .ref fo])), (dc, .inl (cV, 3, .inr (.inr (.inr (.inr (fun _ => none))))))]) hP hD [0, 1] [] rfl rfl (by decide) (by decide) hk1 hFc hP1 hD1
  have hK := (hK.sub (tys' := []) [] rfl).app hK1
  generalize H1 = H at hP hS ⊢
  have hP : va_P (dC, dI) vwCl [(x, .inr (0, [.int lim, .int rm, .ref dl, .int n, .ref sb, .ref dc, .ref cm, .ref fo])), (dc, .inl (cV, 3, .inr (.inr (.inr (.inr (fun _ => none))))))] H := hP
  have hD : va_D A [(x, .inr (0, [.int lim, .int rm, .ref dl, .int n, .ref sb, .ref dc, .ref cm, .ref fo])), (dc, .inl (cV, 3, .inr (.inr (.inr (.inr (fun _ => none))))))] := hD
  have hK : va_K (dC, dI) vwCl [(cV, .object "PatchStore$Value")] s := hK
  obtain rfl : r2 = none := by rw [hw3]; exact da_none _
  refine W.eq (g2 := F0 m 5 ls [.null]) rfl ?_
  refine lv_astore_nN hx hb d_PS_length_5 rfl hl (by decide) rfl (fun ls hl => ?_)
  have hl : lv_has ls 4 [(2, .null), (0, .ref x), (1, .int d)] := hl
  refine lv_aload_nN hx hb d_PS_length_6 rfl (lv_at hl 0 rfl) ?_
  refine lv_ifnonnullN hx hb d_PS_length_7 ?_
  refine lv_iconst (v := (-1)) hx hb d_PS_length_10 (by decide) ?_
  have hP9 := hP.sub (ws' := [(x, .inr (0, [.int lim, .int rm, .ref dl, .int n, .ref sb, .ref dc, .ref cm, .ref fo])), (dc, .inl (cV, 3, .inr (.inr (.inr (.inr (fun _ => none))))))]) [0, 1] rfl
  have hD9 := hD.sub (ws' := [(x, .inr (0, [.int lim, .int rm, .ref dl, .int n, .ref sb, .ref dc, .ref cm, .ref fo])), (dc, .inl (cV, 3, .inr (.inr (.inr (.inr (fun _ => none))))))]) [0, 1] (by decide) rfl
  have hK9 := hK.sub (tys' := [(cV, .object "PatchStore$Value")]) [0] rfl
  refine W.widen (k := 0) (n := 0) (Nat.le_of_ble_eq_true rfl) (Nat.le_of_ble_eq_true rfl) ?_
  exact W.iret (v := (-1)) hx hb hr (fun t ht hW => ⟨⟨(-1), (), rfl, rfl, ⟨by rw [ht]; exact hP9, va_K.moved hW.alike hK9, hD9⟩⟩, hS.F ht⟩) hS.2.2 d_PS_length_11
set_option maxHeartbeats 1000000 in
set_option maxRecDepth 100000 in
theorem k0_PS_letterOf (l : Launch) (dC : Nat → ClassId) (dI : Nat → Nat → Nat) (sz : Nat) (i : Int32) : Met l y_PS_letterOf ws_PS_letterOf ({ frames := 0, cells := 0, slots := 0, locals := 0 }) (va_Pc [.null, .int i] (fun U => U.heap.size = sz ∧ va_P (dC, dI) vwCl [] U.heap ∧ va_K (dC, dI) vwCl [] U ∧ va_D (fun _ => True) [])) (va_Qi (fun (r : Int32) (u : Unit) => r = -1) (fun u t => va_P (dC, dI) vwCl [] t.heap ∧ va_K (dC, dI) vwCl [] t ∧ va_D (va_A [] sz) []) (va_A [] sz)) 0 0 (va_A [] sz) := by
  refine Met.ofW (cc := c_PS_letterOf) (maxL := 3) (ret := (some .int)) (by decide) rfl ?_
  intro p e s m args below meth c s₁ B hml hv
  obtain ⟨rfl, hsz, hP, hK, hD0⟩ := hv
  have hx := B.exec
  have hb := B.bytes
  have hr := B.returns
  have hts := atoms_spec (ws := ws_PS_letterOf) B.pre
  have htb := fun w (h : w ∈ TBL) => hts w (List.mem_cons_of_mem _ h)
  have hown : s.vm.findClass R_PS = some m.cls := findClass_of_methodNamed B.named
  have hlocks := B.notSynchronized
  subst hsz
  have hD := hD0.self (sz := s.heap.size)
  generalize hAe : va_A [] s.heap.size = A at hD ⊢
  have hA : ∀ q : Nat, s.heap.size ≤ q → A q := fun q h => by rw [← hAe]; exact Or.inr h
  have hS : va_S A s.heap s.heap [] := va_S.rf
  have hP : va_P (dC, dI) vwCl [] s.heap := hP
  have hl := lv_entry ([.null, .int i]) (n := 3) (Nat.le_of_ble_eq_true rfl)
  rw [lg_entry_eq]
  generalize (lg_sl ([.null, .int i]) ++ List.replicate (3 - (lg_sl ([.null, .int i])).length) Slot.unset).toArray = ls at hl ⊢
  have hl : lv_has ls 3 [(0, .null), (1, .int i)] := hl
  refine lv_aload_nN hx hb d_PS_letterOf_0 rfl (lv_at hl 0 rfl) ?_
  refine lv_ifnullN (tgt := 8) hx hb d_PS_letterOf_1 rfl ?_
  refine lv_iconst (v := (-1)) hx hb d_PS_letterOf_8 (by decide) ?_
  have hP9 := hP.sub (ws' := []) [] rfl
  have hD9 := hD.sub (ws' := []) [] (by decide) rfl
  have hK9 := hK.sub (tys' := []) [] rfl
  refine W.widen (k := 0) (n := 0) (Nat.le_of_ble_eq_true rfl) (Nat.le_of_ble_eq_true rfl) ?_
  exact W.iret (v := (-1)) hx hb hr (fun t ht hW => ⟨⟨(-1), (), rfl, rfl, ⟨by rw [ht]; exact hP9, va_K.moved hW.alike hK9, hD9⟩⟩, hS.F ht⟩) hS.2.2 d_PS_letterOf_9
set_option maxHeartbeats 1000000 in
set_option maxRecDepth 100000 in
theorem k0_PS_letter (l : Launch) (dC : Nat → ClassId) (dI : Nat → Nat → Nat) (sz : Nat) (x : Nat) (lim : Int32) (rm : Int32) (dl : Nat) (sb : Nat) (dc : Nat) (cm : Nat) (fo : Nat) (n : Int32) (cV : ClassId) (d : Int32) (i : Int32) : Met l y_PS_letter ws_PS_letter ({ frames := 1, cells := 0, slots := 0, locals := 22 }) (va_Pc [.ref x, .int d, .int i] (fun U => U.heap.size = sz ∧ va_P (dC, dI) vwCl [(x, .inr (0, [.int lim, .int rm, .ref dl, .int n, .ref sb, .ref dc, .ref cm, .ref fo])), (dc, .inl (cV, 3, .inr (.inr (.inr (.inr (fun _ => none))))))] U.heap ∧ va_K (dC, dI) vwCl [(cV, .object "PatchStore$Value")] U ∧ va_D (fun _ => True) [(x, .inr (0, [.int lim, .int rm, .ref dl, .int n, .ref sb, .ref dc, .ref cm, .ref fo])), (dc, .inl (cV, 3, .inr (.inr (.inr (.inr (fun _ => none))))))])) (va_Qi (fun (r : Int32) (u : Unit) => r = -1) (fun u t => va_P (dC, dI) vwCl [(x, .inr (0, [.int lim, .int rm, .ref dl, .int n, .ref sb, .ref dc, .ref cm, .ref fo])), (dc, .inl (cV, 3, .inr (.inr (.inr (.inr (fun _ => none))))))] t.heap ∧ va_K (dC, dI) vwCl [(cV, .object "PatchStore$Value")] t ∧ va_D (va_A [(x, .inr (0, [.int lim, .int rm, .ref dl, .int n, .ref sb, .ref dc, .ref cm, .ref fo])), (dc, .inl (cV, 3, .inr (.inr (.inr (.inr (fun _ => none))))))] sz) [(x, .inr (0, [.int lim, .int rm, .ref dl, .int n, .ref sb, .ref dc, .ref cm, .ref fo])), (dc, .inl (cV, 3, .inr (.inr (.inr (.inr (fun _ => none))))))]) (va_A [(x, .inr (0, [.int lim, .int rm, .ref dl, .int n, .ref sb, .ref dc, .ref cm, .ref fo])), (dc, .inl (cV, 3, .inr (.inr (.inr (.inr (fun _ => none))))))] sz)) 0 0 (va_A [(x, .inr (0, [.int lim, .int rm, .ref dl, .int n, .ref sb, .ref dc, .ref cm, .ref fo])), (dc, .inl (cV, 3, .inr (.inr (.inr (.inr (fun _ => none))))))] sz) := by
  refine Met.ofW (cc := c_PS_letter) (maxL := 3) (ret := (some .int)) (by decide) rfl ?_
  intro p e s m args below meth c s₁ B hml hv
  obtain ⟨rfl, hsz, hP, hK, hD0⟩ := hv
  have hx := B.exec
  have hb := B.bytes
  have hr := B.returns
  have hts := atoms_spec (ws := ws_PS_letter) B.pre
  have htb := fun w (h : w ∈ TBL) => hts w (List.mem_cons_of_mem _ h)
  have hown : s.vm.findClass R_PS = some m.cls := findClass_of_methodNamed B.named
  have hlocks := B.notSynchronized
  subst hsz
  have hD := hD0.self (sz := s.heap.size)
  generalize hAe : va_A [(x, .inr (0, [.int lim, .int rm, .ref dl, .int n, .ref sb, .ref dc, .ref cm, .ref fo])), (dc, .inl (cV, 3, .inr (.inr (.inr (.inr (fun _ => none))))))] s.heap.size = A at hD ⊢
  have hA : ∀ q : Nat, s.heap.size ≤ q → A q := fun q h => by rw [← hAe]; exact Or.inr h
  have hS : va_S A s.heap s.heap [] := va_S.rf
  have hP : va_P (dC, dI) vwCl [(x, .inr (0, [.int lim, .int rm, .ref dl, .int n, .ref sb, .ref dc, .ref cm, .ref fo])), (dc, .inl (cV, 3, .inr (.inr (.inr (.inr (fun _ => none))))))] s.heap := hP
  have hl := lv_entry ([.ref x, .int d, .int i]) (n := 3) (Nat.le_of_ble_eq_true rfl)
  rw [lg_entry_eq]
  generalize (lg_sl ([.ref x, .int d, .int i]) ++ List.replicate (3 - (lg_sl ([.ref x, .int d, .int i])).length) Slot.unset).toArray = ls at hl ⊢
  have hl : lv_has ls 3 [(0, .ref x), (1, .int d), (2, .int i)] := hl
  refine lv_aload_n hx hb d_PS_letter_0 rfl (lv_at hl 0 rfl) ?_
  refine lv_iload_n hx hb d_PS_letter_1 rfl (lv_at hl 1 rfl) ?_
  have hPc := hP.sub (ws' := [(x, .inr (0, [.int lim, .int rm, .ref dl, .int n, .ref sb, .ref dc, .ref cm, .ref fo])), (dc, .inl (cV, 3, .inr (.inr (.inr (.inr (fun _ => none))))))]) [0, 1] rfl
  have hDc := hD.sub (ws' := [(x, .inr (0, [.int lim, .int rm, .ref dl, .int n, .ref sb, .ref dc, .ref cm, .ref fo])), (dc, .inl (cV, 3, .inr (.inr (.inr (.inr (fun _ => none))))))]) [0, 1] (by decide) rfl
  have hKc := hK.sub (tys' := [(cV, .object "PatchStore$Value")]) [0] rfl
  have hFc := va_free (wc := [(x, .inr (0, [.int lim, .int rm, .ref dl, .int n, .ref sb, .ref dc, .ref cm, .ref fo])), (dc, .inl (cV, 3, .inr (.inr (.inr (.inr (fun _ => none))))))]) hD hS hA [0, 1] rfl
  refine va_callq (va_runV (As := [.int d]) (rest := []) ⟨hx, hb, hml, hown, htb⟩ (k_PS_documentAt l dC dI _ x lim rm dl sb dc cm fo n cV (fun _ => none) d ) (cwV 1 htb (g_V (fun _ h => h) m_577 m_574 m_576 m_1633 m_1) rfl rfl rfl (by decide +kernel) ⟨Nat.le_of_ble_eq_true rfl, Nat.le_of_ble_eq_true rfl⟩) ⟨fun a U g mk q => by obtain ⟨q0, q1, qP, qK, qD⟩ := q; exact ⟨q0, q1, qP, va_K.moved (u := U) (U := U.calling g mk a) (Vm.Alike.refl U.vm) qK, qD⟩, va_recv hK hP (ci := 0) rfl (q0 := 0) rfl, fun U hU hW => ⟨rfl, by rw [hU], by rw [hU]; exact hPc, va_K.moved hW.alike hKc, hDc.weaken (fun _ _ _ _ => trivial)⟩⟩ rfl rfl hl.1 rfl (lv_room (Nat.le_of_ble_eq_true rfl)) d_PS_letter_2 ⟨Nat.le_of_ble_eq_true rfl, Nat.le_of_ble_eq_true rfl⟩) hS (fun q _ h => hFc q h) hFc (fun r2 u1 t H1 locs ht hvm hw3 hB hz1 hk1 hS => ?_)
  obtain ⟨hP1, hK1, hD1⟩ := hB
  rw [ht] at hP1
  have hK1 := va_K.moved hvm.symm hK1
  have hw3 : r2 = da (fun _ => none) d := hw3
  obtain ⟨hP, hD⟩ := va_join (wr := []) (w1 := [(x, .inr (0, [.int lim, .int rm, .ref dl, .int n, .ref sb, .ref dc, .ref cm, .ref fo])), (dc, .inl (cV, 3, .inr (.inr (.inr (.inr (fun _ => none))))))]) hP hD [0, 1] [] rfl rfl (by decide) (by decide) hk1 hFc hP1 hD1
  have hK := (hK.sub (tys' := []) [] rfl).app hK1
  generalize H1 = H at hP hS ⊢
  have hP : va_P (dC, dI) vwCl [(x, .inr (0, [.int lim, .int rm, .ref dl, .int n, .ref sb, .ref dc, .ref cm, .ref fo])), (dc, .inl (cV, 3, .inr (.inr (.inr (.inr (fun _ => none))))))] H := hP
  have hD : va_D A [(x, .inr (0, [.int lim, .int rm, .ref dl, .int n, .ref sb, .ref dc, .ref cm, .ref fo])), (dc, .inl (cV, 3, .inr (.inr (.inr (.inr (fun _ => none))))))] := hD
  have hK : va_K (dC, dI) vwCl [(cV, .object "PatchStore$Value")] s := hK
  obtain rfl : r2 = none := by rw [hw3]; exact da_none _
  refine W.eq (g2 := F0 m 5 ls [.null]) rfl ?_
  refine lv_iload_n hx hb d_PS_letter_5 rfl (lv_at hl 2 rfl) ?_
  have hPc := hP.sub (ws' := []) [] rfl
  have hDc := hD.sub (ws' := []) [] (by decide) rfl
  have hKc := hK.sub (tys' := []) [] rfl
  have hFc := va_free (wc := []) hD hS hA [] rfl
  refine va_calli (va_runS (As := [.null, .int i]) (rest := []) ⟨hx, hb, hml, hown, htb⟩ (k0_PS_letterOf l dC dI _ i ) (va_cwS 2 htb (g_S (fun _ h => h) m_1101 m_1099 m_1100 m_1) rfl rfl rfl (by decide +kernel) ⟨Nat.le_of_ble_eq_true rfl, Nat.le_of_ble_eq_true rfl⟩) ⟨fun a U g mk q => by obtain ⟨q0, q1, qP, qK, qD⟩ := q; exact ⟨q0, q1, qP, va_K.moved (u := U) (U := U.calling g mk a) (Vm.Alike.refl U.vm) qK, qD⟩, fun U hU hW => ⟨rfl, by rw [hU], by rw [hU]; exact hPc, va_K.moved hW.alike hKc, hDc.weaken (fun _ _ _ _ => trivial)⟩⟩ rfl rfl hl.1 rfl (lv_room (Nat.le_of_ble_eq_true rfl)) d_PS_letter_6 ⟨Nat.le_of_ble_eq_true rfl, Nat.le_of_ble_eq_true rfl⟩) hS (fun q _ h => hFc q h) hFc (fun r6 u5 t H1 locs ht hvm hw7 hB hz1 hk1 hS => ?_)
  obtain ⟨hP1, hK1, hD1⟩ := hB
  rw [ht] at hP1
  have hK1 := va_K.moved hvm.symm hK1
  have hw7 : r6 = -1 := hw7
  obtain ⟨hP, hD⟩ := va_join (wr := [(x, .inr (0, [.int lim, .int rm, .ref dl, .int n, .ref sb, .ref dc, .ref cm, .ref fo])), (dc, .inl (cV, 3, .inr (.inr (.inr (.inr (fun _ => none))))))]) (w1 := []) hP hD [] [0, 1] rfl rfl (by decide) (by decide) hk1 hFc hP1 hD1
  have hK := (hK.sub (tys' := [(cV, .object "PatchStore$Value")]) [0] rfl).app hK1
  generalize H1 = H at hP hS ⊢
  have hP : va_P (dC, dI) vwCl [(x, .inr (0, [.int lim, .int rm, .ref dl, .int n, .ref sb, .ref dc, .ref cm, .ref fo])), (dc, .inl (cV, 3, .inr (.inr (.inr (.inr (fun _ => none))))))] H := hP
  have hD : va_D A [(x, .inr (0, [.int lim, .int rm, .ref dl, .int n, .ref sb, .ref dc, .ref cm, .ref fo])), (dc, .inl (cV, 3, .inr (.inr (.inr (.inr (fun _ => none))))))] := hD
  have hK : va_K (dC, dI) vwCl [(cV, .object "PatchStore$Value")] s := hK
  have hP9 := hP.sub (ws' := [(x, .inr (0, [.int lim, .int rm, .ref dl, .int n, .ref sb, .ref dc, .ref cm, .ref fo])), (dc, .inl (cV, 3, .inr (.inr (.inr (.inr (fun _ => none))))))]) [0, 1] rfl
  have hD9 := hD.sub (ws' := [(x, .inr (0, [.int lim, .int rm, .ref dl, .int n, .ref sb, .ref dc, .ref cm, .ref fo])), (dc, .inl (cV, 3, .inr (.inr (.inr (.inr (fun _ => none))))))]) [0, 1] (by decide) rfl
  have hK9 := hK.sub (tys' := [(cV, .object "PatchStore$Value")]) [0] rfl
  refine W.widen (k := 0) (n := 0) (Nat.le_of_ble_eq_true rfl) (Nat.le_of_ble_eq_true rfl) ?_
  exact W.iret (v := r6) hx hb hr (fun t ht hW => ⟨⟨r6, (), rfl, hw7, ⟨by rw [ht]; exact hP9, va_K.moved hW.alike hK9, hD9⟩⟩, hS.F ht⟩) hS.2.2 d_PS_letter_9
set_option maxHeartbeats 1000000 in
set_option maxRecDepth 100000 in
/-- results() -/
theorem k_PS_results (l : Launch) (dC : Nat → ClassId) (dI : Nat → Nat → Nat) (sz : Nat) (x : Nat) (lim : Int32) (rm : Int32) (dl : Nat) (sb : Nat) (dc : Nat) (cm : Nat) (fo : Nat) (n : Int32) (mo : Int32) (ed : Nat) (k : Int32) : Met l y_PS_results ws_PS_results ({ frames := 1, cells := 0, slots := 0, locals := 20 }) (va_Pc [.ref x] (fun U => U.heap.size = sz ∧ va_P (dC, dI) vwCl [(x, .inr (0, [.int lim, .int rm, .ref dl, .int n, .ref sb, .ref dc, .ref cm, .ref fo])), (fo, .inr (14, [.ref ed, .int k, .int mo]))] U.heap ∧ va_K (dC, dI) vwCl [] U ∧ va_D (fun _ => True) [(x, .inr (0, [.int lim, .int rm, .ref dl, .int n, .ref sb, .ref dc, .ref cm, .ref fo])), (fo, .inr (14, [.ref ed, .int k, .int mo]))])) (va_Qi (fun (r : Int32) (u : Unit) => r = k) (fun u t => va_P (dC, dI) vwCl [(x, .inr (0, [.int lim, .int rm, .ref dl, .int n, .ref sb, .ref dc, .ref cm, .ref fo])), (fo, .inr (14, [.ref ed, .int k, .int mo]))] t.heap ∧ va_K (dC, dI) vwCl [] t ∧ va_D (va_A [(x, .inr (0, [.int lim, .int rm, .ref dl, .int n, .ref sb, .ref dc, .ref cm, .ref fo])), (fo, .inr (14, [.ref ed, .int k, .int mo]))] sz) [(x, .inr (0, [.int lim, .int rm, .ref dl, .int n, .ref sb, .ref dc, .ref cm, .ref fo])), (fo, .inr (14, [.ref ed, .int k, .int mo]))]) (va_A [(x, .inr (0, [.int lim, .int rm, .ref dl, .int n, .ref sb, .ref dc, .ref cm, .ref fo])), (fo, .inr (14, [.ref ed, .int k, .int mo]))] sz)) 0 0 (va_A [(x, .inr (0, [.int lim, .int rm, .ref dl, .int n, .ref sb, .ref dc, .ref cm, .ref fo])), (fo, .inr (14, [.ref ed, .int k, .int mo]))] sz) := by
  refine Met.ofW (cc := c_PS_results) (maxL := 1) (ret := (some .int)) (by decide) rfl ?_
  intro p e s m args below meth c s₁ B hml hv
  obtain ⟨rfl, hsz, hP, hK, hD0⟩ := hv
  have hx := B.exec
  have hb := B.bytes
  have hr := B.returns
  have hts := atoms_spec (ws := ws_PS_results) B.pre
  have htb := fun w (h : w ∈ TBL) => hts w (List.mem_cons_of_mem _ h)
  have hown : s.vm.findClass R_PS = some m.cls := findClass_of_methodNamed B.named
  have hlocks := B.notSynchronized
  subst hsz
  have hD := hD0.self (sz := s.heap.size)
  generalize hAe : va_A [(x, .inr (0, [.int lim, .int rm, .ref dl, .int n, .ref sb, .ref dc, .ref cm, .ref fo])), (fo, .inr (14, [.ref ed, .int k, .int mo]))] s.heap.size = A at hD ⊢
  have hA : ∀ q : Nat, s.heap.size ≤ q → A q := fun q h => by rw [← hAe]; exact Or.inr h
  have hS : va_S A s.heap s.heap [] := va_S.rf
  have hP : va_P (dC, dI) vwCl [(x, .inr (0, [.int lim, .int rm, .ref dl, .int n, .ref sb, .ref dc, .ref cm, .ref fo])), (fo, .inr (14, [.ref ed, .int k, .int mo]))] s.heap := hP
  have hl := lv_entry ([.ref x]) (n := 1) (Nat.le_of_ble_eq_true rfl)
  rw [lg_entry_eq]
  generalize (lg_sl ([.ref x]) ++ List.replicate (1 - (lg_sl ([.ref x])).length) Slot.unset).toArray = ls at hl ⊢
  have hl : lv_has ls 1 [(0, .ref x)] := hl
  refine lv_aload_n hx hb d_PS_results_0 rfl (lv_at hl 0 rfl) ?_
  refine va_get (D := (dC, dI)) (ci := 0) (v := .ref fo) (C := R_PS) (T := T_PS) (N := 8) hx hb htb in_PS hown hK hP 0 rfl rfl 7 (by decide) (htb _ m_106) (fun _ h9 => h9) rfl d_PS_results_1 ?_
  have hPc := hP.sub (ws' := [(fo, .inr (14, [.ref ed, .int k, .int mo]))]) [1] rfl
  have hDc := hD.sub (ws' := [(fo, .inr (14, [.ref ed, .int k, .int mo]))]) [1] (by decide) rfl
  have hKc := hK.sub (tys' := []) [] rfl
  have hFc := va_free (wc := [(fo, .inr (14, [.ref ed, .int k, .int mo]))]) hD hS hA [1] rfl
  refine va_calli (va_runV (As := []) (rest := []) ⟨hx, hb, hml, hown, htb⟩ (k_AL_size l dC dI _ fo mo ed k ) (cwV 0 htb (g_V (fun _ h => h) m_486 m_996 m_484 m_485 m_8) rfl rfl rfl (by decide +kernel) ⟨Nat.le_of_ble_eq_true rfl, Nat.le_of_ble_eq_true rfl⟩) ⟨fun a U g mk q => by obtain ⟨q0, q1, qP, qK, qD⟩ := q; exact ⟨q0, q1, qP, va_K.moved (u := U) (U := U.calling g mk a) (Vm.Alike.refl U.vm) qK, qD⟩, va_recv hK hP (ci := 14) rfl (q0 := 1) rfl, fun U hU hW => ⟨rfl, by rw [hU], by rw [hU]; exact hPc, va_K.moved hW.alike hKc, hDc.weaken (fun _ _ _ _ => trivial)⟩⟩ rfl rfl hl.1 rfl (lv_room (Nat.le_of_ble_eq_true rfl)) d_PS_results_4 ⟨Nat.le_of_ble_eq_true rfl, Nat.le_of_ble_eq_true rfl⟩) hS (fun q _ h => hFc q h) hFc (fun r2 u1 t H1 locs ht hvm hw3 hB hz1 hk1 hS => ?_)
  obtain ⟨hP1, hK1, hD1⟩ := hB
  rw [ht] at hP1
  have hK1 := va_K.moved hvm.symm hK1
  have hw3 : r2 = k := hw3
  obtain ⟨hP, hD⟩ := va_join (wr := [(x, .inr (0, [.int lim, .int rm, .ref dl, .int n, .ref sb, .ref dc, .ref cm, .ref fo]))]) (w1 := [(fo, .inr (14, [.ref ed, .int k, .int mo]))]) hP hD [1] [0] rfl rfl (by decide) (by decide) hk1 hFc hP1 hD1
  have hK := (hK.sub (tys' := []) [] rfl).app hK1
  generalize H1 = H at hP hS ⊢
  have hP : va_P (dC, dI) vwCl [(x, .inr (0, [.int lim, .int rm, .ref dl, .int n, .ref sb, .ref dc, .ref cm, .ref fo])), (fo, .inr (14, [.ref ed, .int k, .int mo]))] H := hP
  have hD : va_D A [(x, .inr (0, [.int lim, .int rm, .ref dl, .int n, .ref sb, .ref dc, .ref cm, .ref fo])), (fo, .inr (14, [.ref ed, .int k, .int mo]))] := hD
  have hK : va_K (dC, dI) vwCl [] s := hK
  have hP9 := hP.sub (ws' := [(x, .inr (0, [.int lim, .int rm, .ref dl, .int n, .ref sb, .ref dc, .ref cm, .ref fo])), (fo, .inr (14, [.ref ed, .int k, .int mo]))]) [0, 1] rfl
  have hD9 := hD.sub (ws' := [(x, .inr (0, [.int lim, .int rm, .ref dl, .int n, .ref sb, .ref dc, .ref cm, .ref fo])), (fo, .inr (14, [.ref ed, .int k, .int mo]))]) [0, 1] (by decide) rfl
  have hK9 := hK.sub (tys' := []) [] rfl
  refine W.widen (k := 0) (n := 0) (Nat.le_of_ble_eq_true rfl) (Nat.le_of_ble_eq_true rfl) ?_
  exact W.iret (v := r2) hx hb hr (fun t ht hW => ⟨⟨r2, (), rfl, hw3, ⟨by rw [ht]; exact hP9, va_K.moved hW.alike hK9, hD9⟩⟩, hS.F ht⟩) hS.2.2 d_PS_results_7
set_option maxHeartbeats 1000000 in
set_option maxRecDepth 100000 in
theorem k0_PS_shown (l : Launch) (dC : Nat → ClassId) (dI : Nat → Nat → Nat) (sz : Nat) (x : Nat) (lim : Int32) (rm : Int32) (dl : Nat) (sb : Nat) (dc : Nat) (cm : Nat) (fo : Nat) (n : Int32) (mo : Int32) (ed : Nat) (j : Int32) (i : Int32) : Met l y_PS_shown ws_PS_shown ({ frames := 1, cells := 0, slots := 0, locals := 20 }) (va_Pc [.ref x, .int j, .int i] (fun U => U.heap.size = sz ∧ va_P (dC, dI) vwCl [(x, .inr (0, [.int lim, .int rm, .ref dl, .int n, .ref sb, .ref dc, .ref cm, .ref fo])), (fo, .inr (14, [.ref ed, .int 0, .int mo]))] U.heap ∧ va_K (dC, dI) vwCl [] U ∧ va_D (fun _ => True) [(x, .inr (0, [.int lim, .int rm, .ref dl, .int n, .ref sb, .ref dc, .ref cm, .ref fo])), (fo, .inr (14, [.ref ed, .int 0, .int mo]))])) (va_Qi (fun (r : Int32) (u : Unit) => r = -1) (fun u t => va_P (dC, dI) vwCl [(x, .inr (0, [.int lim, .int rm, .ref dl, .int n, .ref sb, .ref dc, .ref cm, .ref fo])), (fo, .inr (14, [.ref ed, .int 0, .int mo]))] t.heap ∧ va_K (dC, dI) vwCl [] t ∧ va_D (va_A [(x, .inr (0, [.int lim, .int rm, .ref dl, .int n, .ref sb, .ref dc, .ref cm, .ref fo])), (fo, .inr (14, [.ref ed, .int 0, .int mo]))] sz) [(x, .inr (0, [.int lim, .int rm, .ref dl, .int n, .ref sb, .ref dc, .ref cm, .ref fo])), (fo, .inr (14, [.ref ed, .int 0, .int mo]))]) (va_A [(x, .inr (0, [.int lim, .int rm, .ref dl, .int n, .ref sb, .ref dc, .ref cm, .ref fo])), (fo, .inr (14, [.ref ed, .int 0, .int mo]))] sz)) 0 0 (va_A [(x, .inr (0, [.int lim, .int rm, .ref dl, .int n, .ref sb, .ref dc, .ref cm, .ref fo])), (fo, .inr (14, [.ref ed, .int 0, .int mo]))] sz) := by
  refine Met.ofW (cc := c_PS_shown) (maxL := 3) (ret := (some .int)) (by decide) rfl ?_
  intro p e s m args below meth c s₁ B hml hv
  obtain ⟨rfl, hsz, hP, hK, hD0⟩ := hv
  have hx := B.exec
  have hb := B.bytes
  have hr := B.returns
  have hts := atoms_spec (ws := ws_PS_shown) B.pre
  have htb := fun w (h : w ∈ TBL) => hts w (List.mem_cons_of_mem _ h)
  have hown : s.vm.findClass R_PS = some m.cls := findClass_of_methodNamed B.named
  have hlocks := B.notSynchronized
  subst hsz
  have hD := hD0.self (sz := s.heap.size)
  generalize hAe : va_A [(x, .inr (0, [.int lim, .int rm, .ref dl, .int n, .ref sb, .ref dc, .ref cm, .ref fo])), (fo, .inr (14, [.ref ed, .int 0, .int mo]))] s.heap.size = A at hD ⊢
  have hA : ∀ q : Nat, s.heap.size ≤ q → A q := fun q h => by rw [← hAe]; exact Or.inr h
  have hS : va_S A s.heap s.heap [] := va_S.rf
  have hP : va_P (dC, dI) vwCl [(x, .inr (0, [.int lim, .int rm, .ref dl, .int n, .ref sb, .ref dc, .ref cm, .ref fo])), (fo, .inr (14, [.ref ed, .int 0, .int mo]))] s.heap := hP
  have hl := lv_entry ([.ref x, .int j, .int i]) (n := 3) (Nat.le_of_ble_eq_true rfl)
  rw [lg_entry_eq]
  generalize (lg_sl ([.ref x, .int j, .int i]) ++ List.replicate (3 - (lg_sl ([.ref x, .int j, .int i])).length) Slot.unset).toArray = ls at hl ⊢
  have hl : lv_has ls 3 [(0, .ref x), (1, .int j), (2, .int i)] := hl
  refine lv_iload_n hx hb d_PS_shown_0 rfl (lv_at hl 1 rfl) ?_
  refine lv_if_lt (tgt := 15) hx hb d_PS_shown_1 rfl (fun h1 => ?_) (fun h1 => ?_)
  · refine lv_iconst (v := (-1)) hx hb d_PS_shown_15 (by decide) ?_
    have hP9 := hP.sub (ws' := [(x, .inr (0, [.int lim, .int rm, .ref dl, .int n, .ref sb, .ref dc, .ref cm, .ref fo])), (fo, .inr (14, [.ref ed, .int 0, .int mo]))]) [0, 1] rfl
    have hD9 := hD.sub (ws' := [(x, .inr (0, [.int lim, .int rm, .ref dl, .int n, .ref sb, .ref dc, .ref cm, .ref fo])), (fo, .inr (14, [.ref ed, .int 0, .int mo]))]) [0, 1] (by decide) rfl
    have hK9 := hK.sub (tys' := []) [] rfl
    refine W.widen (k := 0) (n := 0) (Nat.le_of_ble_eq_true rfl) (Nat.le_of_ble_eq_true rfl) ?_
    exact W.iret (v := (-1)) hx hb hr (fun t ht hW => ⟨⟨(-1), (), rfl, rfl, ⟨by rw [ht]; exact hP9, va_K.moved hW.alike hK9, hD9⟩⟩, hS.F ht⟩) hS.2.2 d_PS_shown_16
  · refine lv_iload_n hx hb d_PS_shown_4 rfl (lv_at hl 1 rfl) ?_
    refine lv_aload_n hx hb d_PS_shown_5 rfl (lv_at hl 0 rfl) ?_
    refine va_get (D := (dC, dI)) (ci := 0) (v := .ref fo) (C := R_PS) (T := T_PS) (N := 8) hx hb htb in_PS hown hK hP 0 rfl rfl 7 (by decide) (htb _ m_106) (fun _ h9 => h9) rfl d_PS_shown_6 ?_
    have hPc := hP.sub (ws' := [(fo, .inr (14, [.ref ed, .int 0, .int mo]))]) [1] rfl
    have hDc := hD.sub (ws' := [(fo, .inr (14, [.ref ed, .int 0, .int mo]))]) [1] (by decide) rfl
    have hKc := hK.sub (tys' := []) [] rfl
    have hFc := va_free (wc := [(fo, .inr (14, [.ref ed, .int 0, .int mo]))]) hD hS hA [1] rfl
    refine va_calli (va_runV (As := []) (rest := [.int j]) ⟨hx, hb, hml, hown, htb⟩ (k_AL_size l dC dI _ fo mo ed 0 ) (cwV 0 htb (g_V (fun _ h => h) m_486 m_996 m_484 m_485 m_8) rfl rfl rfl (by decide +kernel) ⟨Nat.le_of_ble_eq_true rfl, Nat.le_of_ble_eq_true rfl⟩) ⟨fun a U g mk q => by obtain ⟨q0, q1, qP, qK, qD⟩ := q; exact ⟨q0, q1, qP, va_K.moved (u := U) (U := U.calling g mk a) (Vm.Alike.refl U.vm) qK, qD⟩, va_recv hK hP (ci := 14) rfl (q0 := 1) rfl, fun U hU hW => ⟨rfl, by rw [hU], by rw [hU]; exact hPc, va_K.moved hW.alike hKc, hDc.weaken (fun _ _ _ _ => trivial)⟩⟩ rfl rfl hl.1 rfl (lv_room (Nat.le_of_ble_eq_true rfl)) d_PS_shown_9 ⟨Nat.le_of_ble_eq_true rfl, Nat.le_of_ble_eq_true rfl⟩) hS (fun q _ h => hFc q h) hFc (fun r2 u1 t H1 locs ht hvm hw3 hB hz1 hk1 hS => ?_)
    obtain ⟨hP1, hK1, hD1⟩ := hB
    rw [ht] at hP1
    have hK1 := va_K.moved hvm.symm hK1
    have hw3 : r2 = 0 := hw3
    obtain ⟨hP, hD⟩ := va_join (wr := [(x, .inr (0, [.int lim, .int rm, .ref dl, .int n, .ref sb, .ref dc, .ref cm, .ref fo]))]) (w1 := [(fo, .inr (14, [.ref ed, .int 0, .int mo]))]) hP hD [1] [0] rfl rfl (by decide) (by decide) hk1 hFc hP1 hD1
    have hK := (hK.sub (tys' := []) [] rfl).app hK1
    generalize H1 = H at hP hS ⊢
    have hP : va_P (dC, dI) vwCl [(x, .inr (0, [.int lim, .int rm, .ref dl, .int n, .ref sb, .ref dc, .ref cm, .ref fo])), (fo, .inr (14, [.ref ed, .int 0, .int mo]))] H := hP
    have hD : va_D A [(x, .inr (0, [.int lim, .int rm, .ref dl, .int n, .ref sb, .ref dc, .ref cm, .ref fo])), (fo, .inr (14, [.ref ed, .int 0, .int mo]))] := hD
    have hK : va_K (dC, dI) vwCl [] s := hK
    refine lv_icmp_lt (tgt := 17) hx hb d_PS_shown_12 rfl (fun h9 => absurd h9 (by rw [hw3]; exact h1)) (fun _ => ?_)
    refine lv_iconst (v := (-1)) hx hb d_PS_shown_15 (by decide) ?_
    have hP9 := hP.sub (ws' := [(x, .inr (0, [.int lim, .int rm, .ref dl, .int n, .ref sb, .ref dc, .ref cm, .ref fo])), (fo, .inr (14, [.ref ed, .int 0, .int mo]))]) [0, 1] rfl
    have hD9 := hD.sub (ws' := [(x, .inr (0, [.int lim, .int rm, .ref dl, .int n, .ref sb, .ref dc, .ref cm, .ref fo])), (fo, .inr (14, [.ref ed, .int 0, .int mo]))]) [0, 1] (by decide) rfl
    have hK9 := hK.sub (tys' := []) [] rfl
    refine W.widen (k := 0) (n := 0) (Nat.le_of_ble_eq_true rfl) (Nat.le_of_ble_eq_true rfl) ?_
    exact W.iret (v := (-1)) hx hb hr (fun t ht hW => ⟨⟨(-1), (), rfl, rfl, ⟨by rw [ht]; exact hP9, va_K.moved hW.alike hK9, hD9⟩⟩, hS.F ht⟩) hS.2.2 d_PS_shown_16
set_option maxHeartbeats 1000000 in
set_option maxRecDepth 100000 in
theorem k0_PS_patch (l : Launch) (dC : Nat → ClassId) (dI : Nat → Nat → Nat) (sz : Nat) (x : Nat) (lim : Int32) (rm : Int32) (dl : Nat) (sb : Nat) (dc : Nat) (cm : Nat) (fo : Nat) (n : Int32) (cV : ClassId) (d : Int32) : Met l y_PS_patch ws_PS_patch ({ frames := 3, cells := 1, slots := 4, locals := 56 }) (va_Pc [.ref x, .int d] (fun U => U.heap.size = sz ∧ va_P (dC, dI) vwCl [(x, .inr (0, [.int lim, .int rm, .ref dl, .int n, .ref sb, .ref dc, .ref cm, .ref fo])), (dc, .inl (cV, 3, .inr (.inr (.inr (.inr (fun _ => none))))))] U.heap ∧ va_K (dC, dI) vwCl [(cV, .object "PatchStore$Value")] U ∧ va_D (fun _ => True) [(x, .inr (0, [.int lim, .int rm, .ref dl, .int n, .ref sb, .ref dc, .ref cm, .ref fo])), (dc, .inl (cV, 3, .inr (.inr (.inr (.inr (fun _ => none))))))])) (va_Qi (fun (r : Int32) (u : Unit) => r = -1) (fun u t => va_P (dC, dI) vwCl [(x, .inr (0, [.int lim, .int rm, .ref dl, .int 0, .ref sb, .ref dc, .ref cm, .ref fo])), (dc, .inl (cV, 3, .inr (.inr (.inr (.inr (fun _ => none))))))] t.heap ∧ va_K (dC, dI) vwCl [(cV, .object "PatchStore$Value")] t ∧ va_D (va_A [(x, .inr (0, [.int lim, .int rm, .ref dl, .int n, .ref sb, .ref dc, .ref cm, .ref fo])), (dc, .inl (cV, 3, .inr (.inr (.inr (.inr (fun _ => none))))))] sz) [(x, .inr (0, [.int lim, .int rm, .ref dl, .int 0, .ref sb, .ref dc, .ref cm, .ref fo])), (dc, .inl (cV, 3, .inr (.inr (.inr (.inr (fun _ => none))))))]) (va_A [(x, .inr (0, [.int lim, .int rm, .ref dl, .int n, .ref sb, .ref dc, .ref cm, .ref fo])), (dc, .inl (cV, 3, .inr (.inr (.inr (.inr (fun _ => none))))))] sz)) 1 4 (va_A [(x, .inr (0, [.int lim, .int rm, .ref dl, .int n, .ref sb, .ref dc, .ref cm, .ref fo])), (dc, .inl (cV, 3, .inr (.inr (.inr (.inr (fun _ => none))))))] sz) := by
  refine Met.ofW (cc := c_PS_patch) (maxL := 9) (ret := (some .int)) (by decide) rfl ?_
  intro p e s m args below meth c s₁ B hml hv
  obtain ⟨rfl, hsz, hP, hK, hD0⟩ := hv
  have hx := B.exec
  have hb := B.bytes
  have hr := B.returns
  have hts := atoms_spec (ws := ws_PS_patch) B.pre
  have htb := fun w (h : w ∈ TBL) => hts w (List.mem_cons_of_mem _ h)
  have hown : s.vm.findClass R_PS = some m.cls := findClass_of_methodNamed B.named
  have hlocks := B.notSynchronized
  subst hsz
  have hD := hD0.self (sz := s.heap.size)
  generalize hAe : va_A [(x, .inr (0, [.int lim, .int rm, .ref dl, .int n, .ref sb, .ref dc, .ref cm, .ref fo])), (dc, .inl (cV, 3, .inr (.inr (.inr (.inr (fun _ => none))))))] s.heap.size = A at hD ⊢
  have hA : ∀ q : Nat, s.heap.size ≤ q → A q := fun q h => by rw [← hAe]; exact Or.inr h
  have hS : va_S A s.heap s.heap [] := va_S.rf
  have hP : va_P (dC, dI) vwCl [(x, .inr (0, [.int lim, .int rm, .ref dl, .int n, .ref sb, .ref dc, .ref cm, .ref fo])), (dc, .inl (cV, 3, .inr (.inr (.inr (.inr (fun _ => none))))))] s.heap := hP
  have hl := lv_entry ([.ref x, .int d]) (n := 9) (Nat.le_of_ble_eq_true rfl)
  rw [lg_entry_eq]
  generalize (lg_sl ([.ref x, .int d]) ++ List.replicate (9 - (lg_sl ([.ref x, .int d])).length) Slot.unset).toArray = ls at hl ⊢
  have hl : lv_has ls 9 [(0, .ref x), (1, .int d)] := hl
  refine lv_aload_n hx hb d_PS_patch_0 rfl (lv_at hl 0 rfl) ?_
  have hPc := hP.sub (ws' := [(x, .inr (0, [.int lim, .int rm, .ref dl, .int n, .ref sb, .ref dc, .ref cm, .ref fo]))]) [0] rfl
  have hDc := hD.sub (ws' := [(x, .inr (0, [.int lim, .int rm, .ref dl, .int n, .ref sb, .ref dc, .ref cm, .ref fo]))]) [0] (by decide) rfl
  have hKc := hK.sub (tys' := []) [] rfl
  have hFc := va_free (wc := [(x, .inr (0, [.int lim, .int rm, .ref dl, .int n, .ref sb, .ref dc, .ref cm, .ref fo]))]) hD hS hA [0] rfl
  refine va_callr (va_runV (As := []) (rest := []) ⟨hx, hb, hml, hown, htb⟩ (k_PS_takeDraft l dC dI _ x lim rm dl sb dc cm fo n ) (cwV 0 htb (g_V (fun _ h => h) m_135 m_132 m_134 m_1626 m_1) rfl rfl rfl (by decide +kernel) ⟨Nat.le_of_ble_eq_true rfl, Nat.le_of_ble_eq_true rfl⟩) ⟨fun a U g mk q => by obtain ⟨q0, q1, qP, qK, qD⟩ := q; exact ⟨q0, q1, qP, va_K.moved (u := U) (U := U.calling g mk a) (Vm.Alike.refl U.vm) qK, qD⟩, va_recv hK hP (ci := 0) rfl (q0 := 0) rfl, fun U hU hW => ⟨rfl, by rw [hU], by rw [hU]; exact hPc, va_K.moved hW.alike hKc, hDc.weaken (fun _ _ _ _ => trivial)⟩⟩ rfl rfl hl.1 rfl (lv_room (Nat.le_of_ble_eq_true rfl)) d_PS_patch_1 ⟨Nat.le_of_ble_eq_true rfl, Nat.le_of_ble_eq_true rfl⟩) hS (fun q _ h => hFc q h) hFc (fun u1 ra4 t H1 locs ht hvm hw3 hB hz1 hk1 hS => ?_)
  obtain ⟨hP1, hK1, hD1⟩ := hB
  rw [ht] at hP1
  have hK1 := va_K.moved hvm.symm hK1
  have hw3 : True := hw3
  obtain ⟨hP, hD⟩ := va_join (wr := [(dc, .inl (cV, 3, .inr (.inr (.inr (.inr (fun _ => none))))))]) (w1 := [(x, .inr (0, [.int lim, .int rm, .ref dl, .int 0, .ref sb, .ref dc, .ref cm, .ref fo])), (ra4, .inr (1, [.ref dl, .int n, .int 0, .ref sb]))]) hP hD [0] [1] rfl rfl (by decide) (by decide) hk1 hFc hP1 hD1
  have hK := (hK.sub (tys' := [(cV, .object "PatchStore$Value")]) [0] rfl).app hK1
  generalize H1 = H at hP hS ⊢
  have hP : va_P (dC, dI) vwCl [(dc, .inl (cV, 3, .inr (.inr (.inr (.inr (fun _ => none)))))), (x, .inr (0, [.int lim, .int rm, .ref dl, .int 0, .ref sb, .ref dc, .ref cm, .ref fo])), (ra4, .inr (1, [.ref dl, .int n, .int 0, .ref sb]))] H := hP
  have hD : va_D A [(dc, .inl (cV, 3, .inr (.inr (.inr (.inr (fun _ => none)))))), (x, .inr (0, [.int lim, .int rm, .ref dl, .int 0, .ref sb, .ref dc, .ref cm, .ref fo])), (ra4, .inr (1, [.ref dl, .int n, .int 0, .ref sb]))] := hD
  have hK : va_K (dC, dI) vwCl [(cV, .object "PatchStore$Value")] s := hK
  refine W.widen (k := 1) (n := 4) (Nat.le_of_ble_eq_true rfl) (Nat.le_of_ble_eq_true rfl) ?_
  refine lv_astore_n hx hb d_PS_patch_4 rfl hl (by decide) rfl (fun ls hl => ?_)
  have hl : lv_has ls 9 [(2, .ref ra4), (0, .ref x), (1, .int d)] := hl
  refine lv_aload_n hx hb d_PS_patch_5 rfl (lv_at hl 1 rfl) ?_
  refine lv_iload_n hx hb d_PS_patch_6 rfl (lv_at hl 2 rfl) ?_
  have hPc := hP.sub (ws' := [(x, .inr (0, [.int lim, .int rm, .ref dl, .int 0, .ref sb, .ref dc, .ref cm, .ref fo])), (dc, .inl (cV, 3, .inr (.inr (.inr (.inr (fun _ => none))))))]) [1, 0] rfl
  have hDc := hD.sub (ws' := [(x, .inr (0, [.int lim, .int rm, .ref dl, .int 0, .ref sb, .ref dc, .ref cm, .ref fo])), (dc, .inl (cV, 3, .inr (.inr (.inr (.inr (fun _ => none))))))]) [1, 0] (by decide) rfl
  have hKc := hK.sub (tys' := [(cV, .object "PatchStore$Value")]) [0] rfl
  have hFc := va_free (wc := [(x, .inr (0, [.int lim, .int rm, .ref dl, .int 0, .ref sb, .ref dc, .ref cm, .ref fo])), (dc, .inl (cV, 3, .inr (.inr (.inr (.inr (fun _ => none))))))]) hD hS hA [1, 0] rfl
  refine va_callq (va_runV (As := [.int d]) (rest := []) ⟨hx, hb, hml, hown, htb⟩ (k_PS_documentAt l dC dI _ x lim rm dl sb dc cm fo 0 cV (fun _ => none) d ) (cwV 1 htb (g_V (fun _ h => h) m_577 m_574 m_576 m_1633 m_1) rfl rfl rfl (by decide +kernel) ⟨Nat.le_of_ble_eq_true rfl, Nat.le_of_ble_eq_true rfl⟩) ⟨fun a U g mk q => by obtain ⟨q0, q1, qP, qK, qD⟩ := q; exact ⟨q0, q1, qP, va_K.moved (u := U) (U := U.calling g mk a) (Vm.Alike.refl U.vm) qK, qD⟩, va_recv hK hP (ci := 0) rfl (q0 := 1) rfl, fun U hU hW => ⟨rfl, by rw [hU], by rw [hU]; exact hPc, va_K.moved hW.alike hKc, hDc.weaken (fun _ _ _ _ => trivial)⟩⟩ rfl rfl hl.1 rfl (lv_room (Nat.le_of_ble_eq_true rfl)) d_PS_patch_7 ⟨Nat.le_of_ble_eq_true rfl, Nat.le_of_ble_eq_true rfl⟩) hS (fun q _ h => hFc q h) hFc (fun r6 u5 t H1 locs ht hvm hw7 hB hz1 hk1 hS => ?_)
  obtain ⟨hP1, hK1, hD1⟩ := hB
  rw [ht] at hP1
  have hK1 := va_K.moved hvm.symm hK1
  have hw7 : r6 = da (fun _ => none) d := hw7
  obtain ⟨hP, hD⟩ := va_join (wr := [(ra4, .inr (1, [.ref dl, .int n, .int 0, .ref sb]))]) (w1 := [(x, .inr (0, [.int lim, .int rm, .ref dl, .int 0, .ref sb, .ref dc, .ref cm, .ref fo])), (dc, .inl (cV, 3, .inr (.inr (.inr (.inr (fun _ => none))))))]) hP hD [1, 0] [2] rfl rfl (by decide) (by decide) hk1 hFc hP1 hD1
  have hK := (hK.sub (tys' := []) [] rfl).app hK1
  generalize H1 = H at hP hS ⊢
  have hP : va_P (dC, dI) vwCl [(ra4, .inr (1, [.ref dl, .int n, .int 0, .ref sb])), (x, .inr (0, [.int lim, .int rm, .ref dl, .int 0, .ref sb, .ref dc, .ref cm, .ref fo])), (dc, .inl (cV, 3, .inr (.inr (.inr (.inr (fun _ => none))))))] H := hP
  have hD : va_D A [(ra4, .inr (1, [.ref dl, .int n, .int 0, .ref sb])), (x, .inr (0, [.int lim, .int rm, .ref dl, .int 0, .ref sb, .ref dc, .ref cm, .ref fo])), (dc, .inl (cV, 3, .inr (.inr (.inr (.inr (fun _ => none))))))] := hD
  have hK : va_K (dC, dI) vwCl [(cV, .object "PatchStore$Value")] s := hK
  obtain rfl : r6 = none := by rw [hw7]; exact da_none _
  refine W.eq (g2 := F0 m 10 ls [.null]) rfl ?_
  refine lv_astore_nN hx hb d_PS_patch_10 rfl hl (by decide) rfl (fun ls hl => ?_)
  have hl : lv_has ls 9 [(3, .null), (2, .ref ra4), (0, .ref x), (1, .int d)] := hl
  refine lv_aload_nN hx hb d_PS_patch_11 rfl (lv_at hl 0 rfl) ?_
  refine lv_ifnonnullN hx hb d_PS_patch_12 ?_
  refine lv_iconst (v := (-1)) hx hb d_PS_patch_15 (by decide) ?_
  have hP9 := hP.sub (ws' := [(x, .inr (0, [.int lim, .int rm, .ref dl, .int 0, .ref sb, .ref dc, .ref cm, .ref fo])), (dc, .inl (cV, 3, .inr (.inr (.inr (.inr (fun _ => none))))))]) [1, 2] rfl
  have hD9 := hD.sub (ws' := [(x, .inr (0, [.int lim, .int rm, .ref dl, .int 0, .ref sb, .ref dc, .ref cm, .ref fo])), (dc, .inl (cV, 3, .inr (.inr (.inr (.inr (fun _ => none))))))]) [1, 2] (by decide) rfl
  have hK9 := hK.sub (tys' := [(cV, .object "PatchStore$Value")]) [0] rfl
  refine W.widen (k := 1) (n := 4) (Nat.le_of_ble_eq_true rfl) (Nat.le_of_ble_eq_true rfl) ?_
  exact W.iret (v := (-1)) hx hb hr (fun t ht hW => ⟨⟨(-1), (), rfl, rfl, ⟨by rw [ht]; exact hP9, va_K.moved hW.alike hK9, hD9⟩⟩, hS.F ht⟩) hS.2.2 d_PS_patch_16
set_option maxHeartbeats 1000000 in
set_option maxRecDepth 100000 in
theorem k0_PS_query (l : Launch) (dC : Nat → ClassId) (dI : Nat → Nat → Nat) (sz : Nat) (x : Nat) (lim : Int32) (rm : Int32) (dl : Nat) (sb : Nat) (dc : Nat) (cm : Nat) (fo : Nat) (n : Int32) (cV : ClassId) (d : Int32) : Met l y_PS_query ws_PS_query ({ frames := 3, cells := 1, slots := 4, locals := 56 }) (va_Pc [.ref x, .int d] (fun U => U.heap.size = sz ∧ va_P (dC, dI) vwCl [(x, .inr (0, [.int lim, .int rm, .ref dl, .int n, .ref sb, .ref dc, .ref cm, .ref fo])), (dc, .inl (cV, 3, .inr (.inr (.inr (.inr (fun _ => none))))))] U.heap ∧ va_K (dC, dI) vwCl [(cV, .object "PatchStore$Value")] U ∧ va_D (fun _ => True) [(x, .inr (0, [.int lim, .int rm, .ref dl, .int n, .ref sb, .ref dc, .ref cm, .ref fo])), (dc, .inl (cV, 3, .inr (.inr (.inr (.inr (fun _ => none))))))])) (va_Qi (fun (r : Int32) (u : Unit) => r = -1) (fun u t => va_P (dC, dI) vwCl [(x, .inr (0, [.int lim, .int rm, .ref dl, .int 0, .ref sb, .ref dc, .ref cm, .ref fo])), (dc, .inl (cV, 3, .inr (.inr (.inr (.inr (fun _ => none))))))] t.heap ∧ va_K (dC, dI) vwCl [(cV, .object "PatchStore$Value")] t ∧ va_D (va_A [(x, .inr (0, [.int lim, .int rm, .ref dl, .int n, .ref sb, .ref dc, .ref cm, .ref fo])), (dc, .inl (cV, 3, .inr (.inr (.inr (.inr (fun _ => none))))))] sz) [(x, .inr (0, [.int lim, .int rm, .ref dl, .int 0, .ref sb, .ref dc, .ref cm, .ref fo])), (dc, .inl (cV, 3, .inr (.inr (.inr (.inr (fun _ => none))))))]) (va_A [(x, .inr (0, [.int lim, .int rm, .ref dl, .int n, .ref sb, .ref dc, .ref cm, .ref fo])), (dc, .inl (cV, 3, .inr (.inr (.inr (.inr (fun _ => none))))))] sz)) 1 4 (va_A [(x, .inr (0, [.int lim, .int rm, .ref dl, .int n, .ref sb, .ref dc, .ref cm, .ref fo])), (dc, .inl (cV, 3, .inr (.inr (.inr (.inr (fun _ => none))))))] sz) := by
  refine Met.ofW (cc := c_PS_query) (maxL := 7) (ret := (some .int)) (by decide) rfl ?_
  intro p e s m args below meth c s₁ B hml hv
  obtain ⟨rfl, hsz, hP, hK, hD0⟩ := hv
  have hx := B.exec
  have hb := B.bytes
  have hr := B.returns
  have hts := atoms_spec (ws := ws_PS_query) B.pre
  have htb := fun w (h : w ∈ TBL) => hts w (List.mem_cons_of_mem _ h)
  have hown : s.vm.findClass R_PS = some m.cls := findClass_of_methodNamed B.named
  have hlocks := B.notSynchronized
  subst hsz
  have hD := hD0.self (sz := s.heap.size)
  generalize hAe : va_A [(x, .inr (0, [.int lim, .int rm, .ref dl, .int n, .ref sb, .ref dc, .ref cm, .ref fo])), (dc, .inl (cV, 3, .inr (.inr (.inr (.inr (fun _ => none))))))] s.heap.size = A at hD ⊢
  have hA : ∀ q : Nat, s.heap.size ≤ q → A q := fun q h => by rw [← hAe]; exact Or.inr h
  have hS : va_S A s.heap s.heap [] := va_S.rf
  have hP : va_P (dC, dI) vwCl [(x, .inr (0, [.int lim, .int rm, .ref dl, .int n, .ref sb, .ref dc, .ref cm, .ref fo])), (dc, .inl (cV, 3, .inr (.inr (.inr (.inr (fun _ => none))))))] s.heap := hP
  have hl := lv_entry ([.ref x, .int d]) (n := 7) (Nat.le_of_ble_eq_true rfl)
  rw [lg_entry_eq]
  generalize (lg_sl ([.ref x, .int d]) ++ List.replicate (7 - (lg_sl ([.ref x, .int d])).length) Slot.unset).toArray = ls at hl ⊢
  have hl : lv_has ls 7 [(0, .ref x), (1, .int d)] := hl
  refine lv_aload_n hx hb d_PS_query_0 rfl (lv_at hl 0 rfl) ?_
  have hPc := hP.sub (ws' := [(x, .inr (0, [.int lim, .int rm, .ref dl, .int n, .ref sb, .ref dc, .ref cm, .ref fo]))]) [0] rfl
  have hDc := hD.sub (ws' := [(x, .inr (0, [.int lim, .int rm, .ref dl, .int n, .ref sb, .ref dc, .ref cm, .ref fo]))]) [0] (by decide) rfl
  have hKc := hK.sub (tys' := []) [] rfl
  have hFc := va_free (wc := [(x, .inr (0, [.int lim, .int rm, .ref dl, .int n, .ref sb, .ref dc, .ref cm, .ref fo]))]) hD hS hA [0] rfl
  refine va_callr (va_runV (As := []) (rest := []) ⟨hx, hb, hml, hown, htb⟩ (k_PS_takeDraft l dC dI _ x lim rm dl sb dc cm fo n ) (cwV 0 htb (g_V (fun _ h => h) m_135 m_132 m_134 m_1626 m_1) rfl rfl rfl (by decide +kernel) ⟨Nat.le_of_ble_eq_true rfl, Nat.le_of_ble_eq_true rfl⟩) ⟨fun a U g mk q => by obtain ⟨q0, q1, qP, qK, qD⟩ := q; exact ⟨q0, q1, qP, va_K.moved (u := U) (U := U.calling g mk a) (Vm.Alike.refl U.vm) qK, qD⟩, va_recv hK hP (ci := 0) rfl (q0 := 0) rfl, fun U hU hW => ⟨rfl, by rw [hU], by rw [hU]; exact hPc, va_K.moved hW.alike hKc, hDc.weaken (fun _ _ _ _ => trivial)⟩⟩ rfl rfl hl.1 rfl (lv_room (Nat.le_of_ble_eq_true rfl)) d_PS_query_1 ⟨Nat.le_of_ble_eq_true rfl, Nat.le_of_ble_eq_true rfl⟩) hS (fun q _ h => hFc q h) hFc (fun u1 ra4 t H1 locs ht hvm hw3 hB hz1 hk1 hS => ?_)
  obtain ⟨hP1, hK1, hD1⟩ := hB
  rw [ht] at hP1
  have hK1 := va_K.moved hvm.symm hK1
  have hw3 : True := hw3
  obtain ⟨hP, hD⟩ := va_join (wr := [(dc, .inl (cV, 3, .inr (.inr (.inr (.inr (fun _ => none))))))]) (w1 := [(x, .inr (0, [.int lim, .int rm, .ref dl, .int 0, .ref sb, .ref dc, .ref cm, .ref fo])), (ra4, .inr (1, [.ref dl, .int n, .int 0, .ref sb]))]) hP hD [0] [1] rfl rfl (by decide) (by decide) hk1 hFc hP1 hD1
  have hK := (hK.sub (tys' := [(cV, .object "PatchStore$Value")]) [0] rfl).app hK1
  generalize H1 = H at hP hS ⊢
  have hP : va_P (dC, dI) vwCl [(dc, .inl (cV, 3, .inr (.inr (.inr (.inr (fun _ => none)))))), (x, .inr (0, [.int lim, .int rm, .ref dl, .int 0, .ref sb, .ref dc, .ref cm, .ref fo])), (ra4, .inr (1, [.ref dl, .int n, .int 0, .ref sb]))] H := hP
  have hD : va_D A [(dc, .inl (cV, 3, .inr (.inr (.inr (.inr (fun _ => none)))))), (x, .inr (0, [.int lim, .int rm, .ref dl, .int 0, .ref sb, .ref dc, .ref cm, .ref fo])), (ra4, .inr (1, [.ref dl, .int n, .int 0, .ref sb]))] := hD
  have hK : va_K (dC, dI) vwCl [(cV, .object "PatchStore$Value")] s := hK
  refine W.widen (k := 1) (n := 4) (Nat.le_of_ble_eq_true rfl) (Nat.le_of_ble_eq_true rfl) ?_
  refine lv_astore_n hx hb d_PS_query_4 rfl hl (by decide) rfl (fun ls hl => ?_)
  have hl : lv_has ls 7 [(2, .ref ra4), (0, .ref x), (1, .int d)] := hl
  refine lv_aload_n hx hb d_PS_query_5 rfl (lv_at hl 1 rfl) ?_
  refine lv_iload_n hx hb d_PS_query_6 rfl (lv_at hl 2 rfl) ?_
  have hPc := hP.sub (ws' := [(x, .inr (0, [.int lim, .int rm, .ref dl, .int 0, .ref sb, .ref dc, .ref cm, .ref fo])), (dc, .inl (cV, 3, .inr (.inr (.inr (.inr (fun _ => none))))))]) [1, 0] rfl
  have hDc := hD.sub (ws' := [(x, .inr (0, [.int lim, .int rm, .ref dl, .int 0, .ref sb, .ref dc, .ref cm, .ref fo])), (dc, .inl (cV, 3, .inr (.inr (.inr (.inr (fun _ => none))))))]) [1, 0] (by decide) rfl
  have hKc := hK.sub (tys' := [(cV, .object "PatchStore$Value")]) [0] rfl
  have hFc := va_free (wc := [(x, .inr (0, [.int lim, .int rm, .ref dl, .int 0, .ref sb, .ref dc, .ref cm, .ref fo])), (dc, .inl (cV, 3, .inr (.inr (.inr (.inr (fun _ => none))))))]) hD hS hA [1, 0] rfl
  refine va_callq (va_runV (As := [.int d]) (rest := []) ⟨hx, hb, hml, hown, htb⟩ (k_PS_documentAt l dC dI _ x lim rm dl sb dc cm fo 0 cV (fun _ => none) d ) (cwV 1 htb (g_V (fun _ h => h) m_577 m_574 m_576 m_1633 m_1) rfl rfl rfl (by decide +kernel) ⟨Nat.le_of_ble_eq_true rfl, Nat.le_of_ble_eq_true rfl⟩) ⟨fun a U g mk q => by obtain ⟨q0, q1, qP, qK, qD⟩ := q; exact ⟨q0, q1, qP, va_K.moved (u := U) (U := U.calling g mk a) (Vm.Alike.refl U.vm) qK, qD⟩, va_recv hK hP (ci := 0) rfl (q0 := 1) rfl, fun U hU hW => ⟨rfl, by rw [hU], by rw [hU]; exact hPc, va_K.moved hW.alike hKc, hDc.weaken (fun _ _ _ _ => trivial)⟩⟩ rfl rfl hl.1 rfl (lv_room (Nat.le_of_ble_eq_true rfl)) d_PS_query_7 ⟨Nat.le_of_ble_eq_true rfl, Nat.le_of_ble_eq_true rfl⟩) hS (fun q _ h => hFc q h) hFc (fun r6 u5 t H1 locs ht hvm hw7 hB hz1 hk1 hS => ?_)
  obtain ⟨hP1, hK1, hD1⟩ := hB
  rw [ht] at hP1
  have hK1 := va_K.moved hvm.symm hK1
  have hw7 : r6 = da (fun _ => none) d := hw7
  obtain ⟨hP, hD⟩ := va_join (wr := [(ra4, .inr (1, [.ref dl, .int n, .int 0, .ref sb]))]) (w1 := [(x, .inr (0, [.int lim, .int rm, .ref dl, .int 0, .ref sb, .ref dc, .ref cm, .ref fo])), (dc, .inl (cV, 3, .inr (.inr (.inr (.inr (fun _ => none))))))]) hP hD [1, 0] [2] rfl rfl (by decide) (by decide) hk1 hFc hP1 hD1
  have hK := (hK.sub (tys' := []) [] rfl).app hK1
  generalize H1 = H at hP hS ⊢
  have hP : va_P (dC, dI) vwCl [(ra4, .inr (1, [.ref dl, .int n, .int 0, .ref sb])), (x, .inr (0, [.int lim, .int rm, .ref dl, .int 0, .ref sb, .ref dc, .ref cm, .ref fo])), (dc, .inl (cV, 3, .inr (.inr (.inr (.inr (fun _ => none))))))] H := hP
  have hD : va_D A [(ra4, .inr (1, [.ref dl, .int n, .int 0, .ref sb])), (x, .inr (0, [.int lim, .int rm, .ref dl, .int 0, .ref sb, .ref dc, .ref cm, .ref fo])), (dc, .inl (cV, 3, .inr (.inr (.inr (.inr (fun _ => none))))))] := hD
  have hK : va_K (dC, dI) vwCl [(cV, .object "PatchStore$Value")] s := hK
  obtain rfl : r6 = none := by rw [hw7]; exact da_none _
  refine W.eq (g2 := F0 m 10 ls [.null]) rfl ?_
  refine lv_astore_nN hx hb d_PS_query_10 rfl hl (by decide) rfl (fun ls hl => ?_)
  have hl : lv_has ls 7 [(3, .null), (2, .ref ra4), (0, .ref x), (1, .int d)] := hl
  refine lv_aload_nN hx hb d_PS_query_11 rfl (lv_at hl 0 rfl) ?_
  refine lv_ifnonnullN hx hb d_PS_query_12 ?_
  refine lv_iconst (v := (-1)) hx hb d_PS_query_15 (by decide) ?_
  have hP9 := hP.sub (ws' := [(x, .inr (0, [.int lim, .int rm, .ref dl, .int 0, .ref sb, .ref dc, .ref cm, .ref fo])), (dc, .inl (cV, 3, .inr (.inr (.inr (.inr (fun _ => none))))))]) [1, 2] rfl
  have hD9 := hD.sub (ws' := [(x, .inr (0, [.int lim, .int rm, .ref dl, .int 0, .ref sb, .ref dc, .ref cm, .ref fo])), (dc, .inl (cV, 3, .inr (.inr (.inr (.inr (fun _ => none))))))]) [1, 2] (by decide) rfl
  have hK9 := hK.sub (tys' := [(cV, .object "PatchStore$Value")]) [0] rfl
  refine W.widen (k := 1) (n := 4) (Nat.le_of_ble_eq_true rfl) (Nat.le_of_ble_eq_true rfl) ?_
  exact W.iret (v := (-1)) hx hb hr (fun t ht hW => ⟨⟨(-1), (), rfl, rfl, ⟨by rw [ht]; exact hP9, va_K.moved hW.alike hK9, hD9⟩⟩, hS.F ht⟩) hS.2.2 d_PS_query_16
set_option maxHeartbeats 1000000 in
set_option maxRecDepth 100000 in
theorem k0_PS_commit (l : Launch) (dC : Nat → ClassId) (dI : Nat → Nat → Nat) (sz : Nat) (x : Nat) (lim : Int32) (rm : Int32) (dl : Nat) (sb : Nat) (dc : Nat) (cm : Nat) (fo : Nat) (n : Int32) (cV : ClassId) (cW : ClassId) : Met l y_PS_commit ws_PS_commit ({ frames := 0, cells := 0, slots := 0, locals := 0 }) (va_Pc [.ref x] (fun U => U.heap.size = sz ∧ va_P (dC, dI) vwCl [(x, .inr (0, [.int lim, .int rm, .ref dl, .int n, .ref sb, .ref dc, .ref cm, .ref fo])), (dc, .inl (cV, 3, .inr (.inr (.inr (.inr (fun _ => none)))))), (cm, .inl (cW, 3, .inr (.inr (.inr (.inr (fun _ => none))))))] U.heap ∧ va_K (dC, dI) vwCl [(cV, .object "PatchStore$Value"), (cW, .object "PatchStore$Value")] U ∧ va_D (fun _ => True) [(x, .inr (0, [.int lim, .int rm, .ref dl, .int n, .ref sb, .ref dc, .ref cm, .ref fo])), (dc, .inl (cV, 3, .inr (.inr (.inr (.inr (fun _ => none)))))), (cm, .inl (cW, 3, .inr (.inr (.inr (.inr (fun _ => none))))))])) (va_Qv (fun (u : Unit) => True) (fun u t => va_P (dC, dI) vwCl [(x, .inr (0, [.int lim, .int rm, .ref dl, .int n, .ref sb, .ref dc, .ref cm, .ref fo])), (dc, .inl (cV, 3, .inr (.inr (.inr (.inr (fun _ => none)))))), (cm, .inl (cW, 3, .inr (.inr (.inr (.inr (fun _ => none))))))] t.heap ∧ va_K (dC, dI) vwCl [(cV, .object "PatchStore$Value"), (cW, .object "PatchStore$Value")] t ∧ va_D (va_A [(x, .inr (0, [.int lim, .int rm, .ref dl, .int n, .ref sb, .ref dc, .ref cm, .ref fo])), (dc, .inl (cV, 3, .inr (.inr (.inr (.inr (fun _ => none)))))), (cm, .inl (cW, 3, .inr (.inr (.inr (.inr (fun _ => none))))))] sz) [(x, .inr (0, [.int lim, .int rm, .ref dl, .int n, .ref sb, .ref dc, .ref cm, .ref fo])), (dc, .inl (cV, 3, .inr (.inr (.inr (.inr (fun _ => none)))))), (cm, .inl (cW, 3, .inr (.inr (.inr (.inr (fun _ => none))))))]) (va_A [(x, .inr (0, [.int lim, .int rm, .ref dl, .int n, .ref sb, .ref dc, .ref cm, .ref fo])), (dc, .inl (cV, 3, .inr (.inr (.inr (.inr (fun _ => none)))))), (cm, .inl (cW, 3, .inr (.inr (.inr (.inr (fun _ => none))))))] sz)) 0 0 (va_A [(x, .inr (0, [.int lim, .int rm, .ref dl, .int n, .ref sb, .ref dc, .ref cm, .ref fo])), (dc, .inl (cV, 3, .inr (.inr (.inr (.inr (fun _ => none)))))), (cm, .inl (cW, 3, .inr (.inr (.inr (.inr (fun _ => none))))))] sz) := by
  refine Met.ofW (cc := c_PS_commit) (maxL := 2) (ret := none) (by decide) rfl ?_
  intro p e s m args below meth c s₁ B hml hv
  obtain ⟨rfl, hsz, hP, hK, hD0⟩ := hv
  have hx := B.exec
  have hb := B.bytes
  have hr := B.returns
  have hts := atoms_spec (ws := ws_PS_commit) B.pre
  have htb := fun w (h : w ∈ TBL) => hts w (List.mem_cons_of_mem _ h)
  have hown : s.vm.findClass R_PS = some m.cls := findClass_of_methodNamed B.named
  have hlocks := B.notSynchronized
  subst hsz
  have hD := hD0.self (sz := s.heap.size)
  generalize hAe : va_A [(x, .inr (0, [.int lim, .int rm, .ref dl, .int n, .ref sb, .ref dc, .ref cm, .ref fo])), (dc, .inl (cV, 3, .inr (.inr (.inr (.inr (fun _ => none)))))), (cm, .inl (cW, 3, .inr (.inr (.inr (.inr (fun _ => none))))))] s.heap.size = A at hD ⊢
  have hA : ∀ q : Nat, s.heap.size ≤ q → A q := fun q h => by rw [← hAe]; exact Or.inr h
  have hS : va_S A s.heap s.heap [] := va_S.rf
  have hP : va_P (dC, dI) vwCl [(x, .inr (0, [.int lim, .int rm, .ref dl, .int n, .ref sb, .ref dc, .ref cm, .ref fo])), (dc, .inl (cV, 3, .inr (.inr (.inr (.inr (fun _ => none)))))), (cm, .inl (cW, 3, .inr (.inr (.inr (.inr (fun _ => none))))))] s.heap := hP
  have hl := lv_entry ([.ref x]) (n := 2) (Nat.le_of_ble_eq_true rfl)
  rw [lg_entry_eq]
  generalize (lg_sl ([.ref x]) ++ List.replicate (2 - (lg_sl ([.ref x])).length) Slot.unset).toArray = ls at hl ⊢
  have hl : lv_has ls 2 [(0, .ref x)] := hl
  refine lv_iconst (v := 0) hx hb d_PS_commit_0 (by decide) ?_
  refine lv_istore_n hx hb d_PS_commit_1 rfl hl (by decide) rfl (fun ls hl => ?_)
  have hl : lv_has ls 2 [(1, .int 0), (0, .ref x)] := hl
  refine lv_iload_n hx hb d_PS_commit_2 rfl (lv_at hl 0 rfl) ?_
  refine lv_iconst (v := 3) hx hb d_PS_commit_3 (by decide) ?_
  refine lv_icmp_ge (tgt := 25) hx hb d_PS_commit_4 rfl (fun h9 => absurd h9 (by decide)) (fun _ => ?_)
  refine lv_aload_n hx hb d_PS_commit_7 rfl (lv_at hl 1 rfl) ?_
  refine va_get (D := (dC, dI)) (ci := 0) (v := .ref cm) (C := R_PS) (T := T_PS) (N := 8) hx hb htb in_PS hown hK hP 0 rfl rfl 6 (by decide) (htb _ m_105) (fun _ h9 => h9) rfl d_PS_commit_8 ?_
  refine lv_iload_n hx hb d_PS_commit_11 rfl (lv_at hl 0 rfl) ?_
  refine lv_aload_n hx hb d_PS_commit_12 rfl (lv_at hl 1 rfl) ?_
  refine va_get (D := (dC, dI)) (ci := 0) (v := .ref dc) (C := R_PS) (T := T_PS) (N := 8) hx hb htb in_PS hown hK hP 0 rfl rfl 5 (by decide) (htb _ m_104) (fun _ h9 => h9) rfl d_PS_commit_13 ?_
  refine lv_iload_n hx hb d_PS_commit_16 rfl (lv_at hl 0 rfl) ?_
  refine va_aldq hx hb hK hP 1 0 rfl rfl (vp_in_iff.mpr (by decide)) d_PS_commit_17 ?_
  refine W.eq (g2 := F0 m 18 ls [.null, .int 0, .ref cm]) rfl ?_
  refine va_astqN hx hb hK hP hD hS 2 1 rfl rfl (vp_in_iff.mpr (by decide)) d_PS_commit_18 (fun H locs hP hD hS => ?_)
  rw [(upn _ : va_up (fun _ => none) (0 : Int32).toNatClampNeg none = (fun _ => none))] at hP hD
  have hP : va_P (dC, dI) vwCl [(x, .inr (0, [.int lim, .int rm, .ref dl, .int n, .ref sb, .ref dc, .ref cm, .ref fo])), (dc, .inl (cV, 3, .inr (.inr (.inr (.inr (fun _ => none)))))), (cm, .inl (cW, 3, .inr (.inr (.inr (.inr (fun _ => none))))))] H := hP
  have hD : va_D A [(x, .inr (0, [.int lim, .int rm, .ref dl, .int n, .ref sb, .ref dc, .ref cm, .ref fo])), (dc, .inl (cV, 3, .inr (.inr (.inr (.inr (fun _ => none)))))), (cm, .inl (cW, 3, .inr (.inr (.inr (.inr (fun _ => none))))))] := hD
  refine lv_iinc (k := 0) (v := 1) hx hb d_PS_commit_19 hl rfl (by decide) (by decide) rfl (fun ls hl => ?_)
  have hl : lv_has ls 2 [(1, .int 1), (0, .ref x)] := hl
  refine lv_goto (tgt := 2) hx hb d_PS_commit_22 rfl ?_
  refine lv_iload_n hx hb d_PS_commit_2 rfl (lv_at hl 0 rfl) ?_
  refine lv_iconst (v := 3) hx hb d_PS_commit_3 (by decide) ?_
  refine lv_icmp_ge (tgt := 25) hx hb d_PS_commit_4 rfl (fun h9 => absurd h9 (by decide)) (fun _ => ?_)
  refine lv_aload_n hx hb d_PS_commit_7 rfl (lv_at hl 1 rfl) ?_
  refine va_get (D := (dC, dI)) (ci := 0) (v := .ref cm) (C := R_PS) (T := T_PS) (N := 8) hx hb htb in_PS hown hK hP 0 rfl rfl 6 (by decide) (htb _ m_105) (fun _ h9 => h9) rfl d_PS_commit_8 ?_
  refine lv_iload_n hx hb d_PS_commit_11 rfl (lv_at hl 0 rfl) ?_
  refine lv_aload_n hx hb d_PS_commit_12 rfl (lv_at hl 1 rfl) ?_
  refine va_get (D := (dC, dI)) (ci := 0) (v := .ref dc) (C := R_PS) (T := T_PS) (N := 8) hx hb htb in_PS hown hK hP 0 rfl rfl 5 (by decide) (htb _ m_104) (fun _ h9 => h9) rfl d_PS_commit_13 ?_
  refine lv_iload_n hx hb d_PS_commit_16 rfl (lv_at hl 0 rfl) ?_
  refine va_aldq hx hb hK hP 1 0 rfl rfl (vp_in_iff.mpr (by decide)) d_PS_commit_17 ?_
  refine W.eq (g2 := F0 m 18 ls [.null, .int 1, .ref cm]) rfl ?_
  refine va_astqN hx hb hK hP hD hS 2 1 rfl rfl (vp_in_iff.mpr (by decide)) d_PS_commit_18 (fun H locs hP hD hS => ?_)
  rw [(upn _ : va_up (fun _ => none) (1 : Int32).toNatClampNeg none = (fun _ => none))] at hP hD
  have hP : va_P (dC, dI) vwCl [(x, .inr (0, [.int lim, .int rm, .ref dl, .int n, .ref sb, .ref dc, .ref cm, .ref fo])), (dc, .inl (cV, 3, .inr (.inr (.inr (.inr (fun _ => none)))))), (cm, .inl (cW, 3, .inr (.inr (.inr (.inr (fun _ => none))))))] H := hP
  have hD : va_D A [(x, .inr (0, [.int lim, .int rm, .ref dl, .int n, .ref sb, .ref dc, .ref cm, .ref fo])), (dc, .inl (cV, 3, .inr (.inr (.inr (.inr (fun _ => none)))))), (cm, .inl (cW, 3, .inr (.inr (.inr (.inr (fun _ => none))))))] := hD
  refine lv_iinc (k := 0) (v := 2) hx hb d_PS_commit_19 hl rfl (by decide) (by decide) rfl (fun ls hl => ?_)
  have hl : lv_has ls 2 [(1, .int 2), (0, .ref x)] := hl
  refine lv_goto (tgt := 2) hx hb d_PS_commit_22 rfl ?_
  refine lv_iload_n hx hb d_PS_commit_2 rfl (lv_at hl 0 rfl) ?_
  refine lv_iconst (v := 3) hx hb d_PS_commit_3 (by decide) ?_
  refine lv_icmp_ge (tgt := 25) hx hb d_PS_commit_4 rfl (fun h9 => absurd h9 (by decide)) (fun _ => ?_)
  refine lv_aload_n hx hb d_PS_commit_7 rfl (lv_at hl 1 rfl) ?_
  refine va_get (D := (dC, dI)) (ci := 0) (v := .ref cm) (C := R_PS) (T := T_PS) (N := 8) hx hb htb in_PS hown hK hP 0 rfl rfl 6 (by decide) (htb _ m_105) (fun _ h9 => h9) rfl d_PS_commit_8 ?_
  refine lv_iload_n hx hb d_PS_commit_11 rfl (lv_at hl 0 rfl) ?_
  refine lv_aload_n hx hb d_PS_commit_12 rfl (lv_at hl 1 rfl) ?_
  refine va_get (D := (dC, dI)) (ci := 0) (v := .ref dc) (C := R_PS) (T := T_PS) (N := 8) hx hb htb in_PS hown hK hP 0 rfl rfl 5 (by decide) (htb _ m_104) (fun _ h9 => h9) rfl d_PS_commit_13 ?_
  refine lv_iload_n hx hb d_PS_commit_16 rfl (lv_at hl 0 rfl) ?_
  refine va_aldq hx hb hK hP 1 0 rfl rfl (vp_in_iff.mpr (by decide)) d_PS_commit_17 ?_
  refine W.eq (g2 := F0 m 18 ls [.null, .int 2, .ref cm]) rfl ?_
  refine va_astqN hx hb hK hP hD hS 2 1 rfl rfl (vp_in_iff.mpr (by decide)) d_PS_commit_18 (fun H locs hP hD hS => ?_)
  rw [(upn _ : va_up (fun _ => none) (2 : Int32).toNatClampNeg none = (fun _ => none))] at hP hD
  have hP : va_P (dC, dI) vwCl [(x, .inr (0, [.int lim, .int rm, .ref dl, .int n, .ref sb, .ref dc, .ref cm, .ref fo])), (dc, .inl (cV, 3, .inr (.inr (.inr (.inr (fun _ => none)))))), (cm, .inl (cW, 3, .inr (.inr (.inr (.inr (fun _ => none))))))] H := hP
  have hD : va_D A [(x, .inr (0, [.int lim, .int rm, .ref dl, .int n, .ref sb, .ref dc, .ref cm, .ref fo])), (dc, .inl (cV, 3, .inr (.inr (.inr (.inr (fun _ => none)))))), (cm, .inl (cW, 3, .inr (.inr (.inr (.inr (fun _ => none))))))] := hD
  refine lv_iinc (k := 0) (v := 3) hx hb d_PS_commit_19 hl rfl (by decide) (by decide) rfl (fun ls hl => ?_)
  have hl : lv_has ls 2 [(1, .int 3), (0, .ref x)] := hl
  refine lv_goto (tgt := 2) hx hb d_PS_commit_22 rfl ?_
  refine lv_iload_n hx hb d_PS_commit_2 rfl (lv_at hl 0 rfl) ?_
  refine lv_iconst (v := 3) hx hb d_PS_commit_3 (by decide) ?_
  refine lv_icmp_ge (tgt := 25) hx hb d_PS_commit_4 rfl (fun _ => ?_) (fun h9 => absurd (by decide) h9)
  have hP9 := hP.sub (ws' := [(x, .inr (0, [.int lim, .int rm, .ref dl, .int n, .ref sb, .ref dc, .ref cm, .ref fo])), (dc, .inl (cV, 3, .inr (.inr (.inr (.inr (fun _ => none)))))), (cm, .inl (cW, 3, .inr (.inr (.inr (.inr (fun _ => none))))))]) [0, 1, 2] rfl
  have hD9 := hD.sub (ws' := [(x, .inr (0, [.int lim, .int rm, .ref dl, .int n, .ref sb, .ref dc, .ref cm, .ref fo])), (dc, .inl (cV, 3, .inr (.inr (.inr (.inr (fun _ => none)))))), (cm, .inl (cW, 3, .inr (.inr (.inr (.inr (fun _ => none))))))]) [0, 1, 2] (by decide) rfl
  have hK9 := hK.sub (tys' := [(cV, .object "PatchStore$Value"), (cW, .object "PatchStore$Value")]) [0, 1] rfl
  refine W.widen (k := 0) (n := 0) (Nat.le_of_ble_eq_true rfl) (Nat.le_of_ble_eq_true rfl) ?_
  exact W.vret hx hb hr (fun t ht hW => ⟨⟨(), rfl, trivial, ⟨by rw [ht]; exact hP9, va_K.moved hW.alike hK9, hD9⟩⟩, hS.F ht⟩) hS.2.2 d_PS_commit_25
set_option maxHeartbeats 1000000 in
set_option maxRecDepth 100000 in
theorem k0_PS_crash (l : Launch) (dC : Nat → ClassId) (dI : Nat → Nat → Nat) (sz : Nat) (x : Nat) (lim : Int32) (rm : Int32) (dl : Nat) (sb : Nat) (dc : Nat) (cm : Nat) (fo : Nat) (n : Int32) (cV : ClassId) (cW : ClassId) (em : Nat) (aK : Nat → Nat) (aV : Nat → Nat) : Met l y_PS_crash ws_PS_crash ({ frames := 4, cells := 1, slots := 3, locals := 72 }) (va_Pc [.ref x] (fun U => U.heap.size = sz ∧ va_P (dC, dI) vwCl [(x, .inr (0, [.int lim, .int rm, .ref dl, .int n, .ref sb, .ref dc, .ref cm, .ref fo])), (dc, .inl (cV, 3, .inr (.inr (.inr (.inr (fun _ => none)))))), (cm, .inl (cW, 3, .inr (.inr (.inr (.inr (fun _ => none))))))] U.heap ∧ va_K (dC, dI) vwCl [(cV, .object "PatchStore$Value"), (cW, .object "PatchStore$Value")] U ∧ va_D (fun _ => True) [(x, .inr (0, [.int lim, .int rm, .ref dl, .int n, .ref sb, .ref dc, .ref cm, .ref fo])), (dc, .inl (cV, 3, .inr (.inr (.inr (.inr (fun _ => none)))))), (cm, .inl (cW, 3, .inr (.inr (.inr (.inr (fun _ => none))))))] ∧ EX em aK aV (va_A [(x, .inr (0, [.int lim, .int rm, .ref dl, .int n, .ref sb, .ref dc, .ref cm, .ref fo])), (dc, .inl (cV, 3, .inr (.inr (.inr (.inr (fun _ => none)))))), (cm, .inl (cW, 3, .inr (.inr (.inr (.inr (fun _ => none))))))] sz) U U.heap)) (va_Qv (fun (u : Unit) => True) (fun u t => ∃ (fq : Nat), va_P (dC, dI) vwCl [(x, .inr (0, [.int lim, .int rm, .ref dl, .int 0, .ref sb, .ref dc, .ref cm, .ref fq])), (dc, .inl (cV, 3, .inr (.inr (.inr (.inr (fun _ => none)))))), (cm, .inl (cW, 3, .inr (.inr (.inr (.inr (fun _ => none)))))), (fq, .inr (14, [.ref em, .int 0, .int 0]))] t.heap ∧ va_K (dC, dI) vwCl [(cV, .object "PatchStore$Value"), (cW, .object "PatchStore$Value")] t ∧ va_D (va_A [(x, .inr (0, [.int lim, .int rm, .ref dl, .int n, .ref sb, .ref dc, .ref cm, .ref fo])), (dc, .inl (cV, 3, .inr (.inr (.inr (.inr (fun _ => none)))))), (cm, .inl (cW, 3, .inr (.inr (.inr (.inr (fun _ => none))))))] sz) [(x, .inr (0, [.int lim, .int rm, .ref dl, .int 0, .ref sb, .ref dc, .ref cm, .ref fq])), (dc, .inl (cV, 3, .inr (.inr (.inr (.inr (fun _ => none)))))), (cm, .inl (cW, 3, .inr (.inr (.inr (.inr (fun _ => none)))))), (fq, .inr (14, [.ref em, .int 0, .int 0]))]) (va_A [(x, .inr (0, [.int lim, .int rm, .ref dl, .int n, .ref sb, .ref dc, .ref cm, .ref fo])), (dc, .inl (cV, 3, .inr (.inr (.inr (.inr (fun _ => none)))))), (cm, .inl (cW, 3, .inr (.inr (.inr (.inr (fun _ => none))))))] sz)) 1 3 (va_A [(x, .inr (0, [.int lim, .int rm, .ref dl, .int n, .ref sb, .ref dc, .ref cm, .ref fo])), (dc, .inl (cV, 3, .inr (.inr (.inr (.inr (fun _ => none)))))), (cm, .inl (cW, 3, .inr (.inr (.inr (.inr (fun _ => none))))))] sz) := by
  refine Met.ofW (cc := c_PS_crash) (maxL := 2) (ret := none) (by decide) rfl ?_
  intro p e s m args below meth c s₁ B hml hv
  obtain ⟨rfl, hsz, hP, hK, hD0, hE⟩ := hv
  have hx := B.exec
  have hb := B.bytes
  have hr := B.returns
  have hts := atoms_spec (ws := ws_PS_crash) B.pre
  have htb := fun w (h : w ∈ TBL) => hts w (List.mem_cons_of_mem _ h)
  have hown : s.vm.findClass R_PS = some m.cls := findClass_of_methodNamed B.named
  have hlocks := B.notSynchronized
  subst hsz
  have hD := hD0.self (sz := s.heap.size)
  generalize hAe : va_A [(x, .inr (0, [.int lim, .int rm, .ref dl, .int n, .ref sb, .ref dc, .ref cm, .ref fo])), (dc, .inl (cV, 3, .inr (.inr (.inr (.inr (fun _ => none)))))), (cm, .inl (cW, 3, .inr (.inr (.inr (.inr (fun _ => none))))))] s.heap.size = A at hD hE ⊢
  have hA : ∀ q : Nat, s.heap.size ≤ q → A q := fun q h => by rw [← hAe]; exact Or.inr h
  have hS : va_S A s.heap s.heap [] := va_S.rf
  have hP : va_P (dC, dI) vwCl [(x, .inr (0, [.int lim, .int rm, .ref dl, .int n, .ref sb, .ref dc, .ref cm, .ref fo])), (dc, .inl (cV, 3, .inr (.inr (.inr (.inr (fun _ => none)))))), (cm, .inl (cW, 3, .inr (.inr (.inr (.inr (fun _ => none))))))] s.heap := hP
  have hl := lv_entry ([.ref x]) (n := 2) (Nat.le_of_ble_eq_true rfl)
  rw [lg_entry_eq]
  generalize (lg_sl ([.ref x]) ++ List.replicate (2 - (lg_sl ([.ref x])).length) Slot.unset).toArray = ls at hl ⊢
  have hl : lv_has ls 2 [(0, .ref x)] := hl
  refine lv_iconst (v := 0) hx hb d_PS_crash_0 (by decide) ?_
  refine lv_istore_n hx hb d_PS_crash_1 rfl hl (by decide) rfl (fun ls hl => ?_)
  have hl : lv_has ls 2 [(1, .int 0), (0, .ref x)] := hl
  refine lv_iload_n hx hb d_PS_crash_2 rfl (lv_at hl 0 rfl) ?_
  refine lv_iconst (v := 3) hx hb d_PS_crash_3 (by decide) ?_
  refine lv_icmp_ge (tgt := 25) hx hb d_PS_crash_4 rfl (fun h9 => absurd h9 (by decide)) (fun _ => ?_)
  refine lv_aload_n hx hb d_PS_crash_7 rfl (lv_at hl 1 rfl) ?_
  refine va_get (D := (dC, dI)) (ci := 0) (v := .ref dc) (C := R_PS) (T := T_PS) (N := 8) hx hb htb in_PS hown hK hP 0 rfl rfl 5 (by decide) (htb _ m_104) (fun _ h9 => h9) rfl d_PS_crash_8 ?_
  refine lv_iload_n hx hb d_PS_crash_11 rfl (lv_at hl 0 rfl) ?_
  refine lv_aload_n hx hb d_PS_crash_12 rfl (lv_at hl 1 rfl) ?_
  refine va_get (D := (dC, dI)) (ci := 0) (v := .ref cm) (C := R_PS) (T := T_PS) (N := 8) hx hb htb in_PS hown hK hP 0 rfl rfl 6 (by decide) (htb _ m_105) (fun _ h9 => h9) rfl d_PS_crash_13 ?_
  refine lv_iload_n hx hb d_PS_crash_16 rfl (lv_at hl 0 rfl) ?_
  refine va_aldq hx hb hK hP 2 1 rfl rfl (vp_in_iff.mpr (by decide)) d_PS_crash_17 ?_
  refine W.eq (g2 := F0 m 18 ls [.null, .int 0, .ref dc]) rfl ?_
  refine va_astqN hx hb hK hP hD hS 1 0 rfl rfl (vp_in_iff.mpr (by decide)) d_PS_crash_18 (fun H locs hP hD hS => ?_)
  rw [(upn _ : va_up (fun _ => none) (0 : Int32).toNatClampNeg none = (fun _ => none))] at hP hD
  have hP : va_P (dC, dI) vwCl [(x, .inr (0, [.int lim, .int rm, .ref dl, .int n, .ref sb, .ref dc, .ref cm, .ref fo])), (dc, .inl (cV, 3, .inr (.inr (.inr (.inr (fun _ => none)))))), (cm, .inl (cW, 3, .inr (.inr (.inr (.inr (fun _ => none))))))] H := hP
  have hD : va_D A [(x, .inr (0, [.int lim, .int rm, .ref dl, .int n, .ref sb, .ref dc, .ref cm, .ref fo])), (dc, .inl (cV, 3, .inr (.inr (.inr (.inr (fun _ => none)))))), (cm, .inl (cW, 3, .inr (.inr (.inr (.inr (fun _ => none))))))] := hD
  refine lv_iinc (k := 0) (v := 1) hx hb d_PS_crash_19 hl rfl (by decide) (by decide) rfl (fun ls hl => ?_)
  have hl : lv_has ls 2 [(1, .int 1), (0, .ref x)] := hl
  refine lv_goto (tgt := 2) hx hb d_PS_crash_22 rfl ?_
  refine lv_iload_n hx hb d_PS_crash_2 rfl (lv_at hl 0 rfl) ?_
  refine lv_iconst (v := 3) hx hb d_PS_crash_3 (by decide) ?_
  refine lv_icmp_ge (tgt := 25) hx hb d_PS_crash_4 rfl (fun h9 => absurd h9 (by decide)) (fun _ => ?_)
  refine lv_aload_n hx hb d_PS_crash_7 rfl (lv_at hl 1 rfl) ?_
  refine va_get (D := (dC, dI)) (ci := 0) (v := .ref dc) (C := R_PS) (T := T_PS) (N := 8) hx hb htb in_PS hown hK hP 0 rfl rfl 5 (by decide) (htb _ m_104) (fun _ h9 => h9) rfl d_PS_crash_8 ?_
  refine lv_iload_n hx hb d_PS_crash_11 rfl (lv_at hl 0 rfl) ?_
  refine lv_aload_n hx hb d_PS_crash_12 rfl (lv_at hl 1 rfl) ?_
  refine va_get (D := (dC, dI)) (ci := 0) (v := .ref cm) (C := R_PS) (T := T_PS) (N := 8) hx hb htb in_PS hown hK hP 0 rfl rfl 6 (by decide) (htb _ m_105) (fun _ h9 => h9) rfl d_PS_crash_13 ?_
  refine lv_iload_n hx hb d_PS_crash_16 rfl (lv_at hl 0 rfl) ?_
  refine va_aldq hx hb hK hP 2 1 rfl rfl (vp_in_iff.mpr (by decide)) d_PS_crash_17 ?_
  refine W.eq (g2 := F0 m 18 ls [.null, .int 1, .ref dc]) rfl ?_
  refine va_astqN hx hb hK hP hD hS 1 0 rfl rfl (vp_in_iff.mpr (by decide)) d_PS_crash_18 (fun H locs hP hD hS => ?_)
  rw [(upn _ : va_up (fun _ => none) (1 : Int32).toNatClampNeg none = (fun _ => none))] at hP hD
  have hP : va_P (dC, dI) vwCl [(x, .inr (0, [.int lim, .int rm, .ref dl, .int n, .ref sb, .ref dc, .ref cm, .ref fo])), (dc, .inl (cV, 3, .inr (.inr (.inr (.inr (fun _ => none)))))), (cm, .inl (cW, 3, .inr (.inr (.inr (.inr (fun _ => none))))))] H := hP
  have hD : va_D A [(x, .inr (0, [.int lim, .int rm, .ref dl, .int n, .ref sb, .ref dc, .ref cm, .ref fo])), (dc, .inl (cV, 3, .inr (.inr (.inr (.inr (fun _ => none)))))), (cm, .inl (cW, 3, .inr (.inr (.inr (.inr (fun _ => none))))))] := hD
  refine lv_iinc (k := 0) (v := 2) hx hb d_PS_crash_19 hl rfl (by decide) (by decide) rfl (fun ls hl => ?_)
  have hl : lv_has ls 2 [(1, .int 2), (0, .ref x)] := hl
  refine lv_goto (tgt := 2) hx hb d_PS_crash_22 rfl ?_
  refine lv_iload_n hx hb d_PS_crash_2 rfl (lv_at hl 0 rfl) ?_
  refine lv_iconst (v := 3) hx hb d_PS_crash_3 (by decide) ?_
  refine lv_icmp_ge (tgt := 25) hx hb d_PS_crash_4 rfl (fun h9 => absurd h9 (by decide)) (fun _ => ?_)
  refine lv_aload_n hx hb d_PS_crash_7 rfl (lv_at hl 1 rfl) ?_
  refine va_get (D := (dC, dI)) (ci := 0) (v := .ref dc) (C := R_PS) (T := T_PS) (N := 8) hx hb htb in_PS hown hK hP 0 rfl rfl 5 (by decide) (htb _ m_104) (fun _ h9 => h9) rfl d_PS_crash_8 ?_
  refine lv_iload_n hx hb d_PS_crash_11 rfl (lv_at hl 0 rfl) ?_
  refine lv_aload_n hx hb d_PS_crash_12 rfl (lv_at hl 1 rfl) ?_
  refine va_get (D := (dC, dI)) (ci := 0) (v := .ref cm) (C := R_PS) (T := T_PS) (N := 8) hx hb htb in_PS hown hK hP 0 rfl rfl 6 (by decide) (htb _ m_105) (fun _ h9 => h9) rfl d_PS_crash_13 ?_
  refine lv_iload_n hx hb d_PS_crash_16 rfl (lv_at hl 0 rfl) ?_
  refine va_aldq hx hb hK hP 2 1 rfl rfl (vp_in_iff.mpr (by decide)) d_PS_crash_17 ?_
  refine W.eq (g2 := F0 m 18 ls [.null, .int 2, .ref dc]) rfl ?_
  refine va_astqN hx hb hK hP hD hS 1 0 rfl rfl (vp_in_iff.mpr (by decide)) d_PS_crash_18 (fun H locs hP hD hS => ?_)
  rw [(upn _ : va_up (fun _ => none) (2 : Int32).toNatClampNeg none = (fun _ => none))] at hP hD
  have hP : va_P (dC, dI) vwCl [(x, .inr (0, [.int lim, .int rm, .ref dl, .int n, .ref sb, .ref dc, .ref cm, .ref fo])), (dc, .inl (cV, 3, .inr (.inr (.inr (.inr (fun _ => none)))))), (cm, .inl (cW, 3, .inr (.inr (.inr (.inr (fun _ => none))))))] H := hP
  have hD : va_D A [(x, .inr (0, [.int lim, .int rm, .ref dl, .int n, .ref sb, .ref dc, .ref cm, .ref fo])), (dc, .inl (cV, 3, .inr (.inr (.inr (.inr (fun _ => none)))))), (cm, .inl (cW, 3, .inr (.inr (.inr (.inr (fun _ => none))))))] := hD
  refine lv_iinc (k := 0) (v := 3) hx hb d_PS_crash_19 hl rfl (by decide) (by decide) rfl (fun ls hl => ?_)
  have hl : lv_has ls 2 [(1, .int 3), (0, .ref x)] := hl
  refine lv_goto (tgt := 2) hx hb d_PS_crash_22 rfl ?_
  refine lv_iload_n hx hb d_PS_crash_2 rfl (lv_at hl 0 rfl) ?_
  refine lv_iconst (v := 3) hx hb d_PS_crash_3 (by decide) ?_
  refine lv_icmp_ge (tgt := 25) hx hb d_PS_crash_4 rfl (fun _ => ?_) (fun h9 => absurd (by decide) h9)
  refine lv_aload_n hx hb d_PS_crash_25 rfl (lv_at hl 1 rfl) ?_
  refine lv_iconst (v := 0) hx hb d_PS_crash_26 (by decide) ?_
  refine va_put (D := (dC, dI)) (ci := 0) (v := .int 0) (ty := .int) (C := R_PS) (T := T_PS) (N := 8) hx hb htb in_PS ty_PS ty_PS_ok nm_PS hown hK hP hD hS 0 rfl rfl 3 (by decide) (htb _ m_102) (fun _ h9 => h9) rfl (by decide +kernel) rfl rfl (Nat.le_of_ble_eq_true rfl) d_PS_crash_27 (fun H locs hP hD hS => ?_)
  have hP : va_P (dC, dI) vwCl [(x, .inr (0, [.int lim, .int rm, .ref dl, .int 0, .ref sb, .ref dc, .ref cm, .ref fo])), (dc, .inl (cV, 3, .inr (.inr (.inr (.inr (fun _ => none)))))), (cm, .inl (cW, 3, .inr (.inr (.inr (.inr (fun _ => none))))))] H := hP
  have hD : va_D A [(x, .inr (0, [.int lim, .int rm, .ref dl, .int 0, .ref sb, .ref dc, .ref cm, .ref fo])), (dc, .inl (cV, 3, .inr (.inr (.inr (.inr (fun _ => none)))))), (cm, .inl (cW, 3, .inr (.inr (.inr (.inr (fun _ => none))))))] := hD
  refine lv_aload_n hx hb d_PS_crash_30 rfl (lv_at hl 1 rfl) ?_
  refine va_new (ci := 14) (fs := [.null, .int 0, .int 0]) (C := R_AL) (T := T_AL) (N := 3) hx hb htb in_AL ty_AL ty_AL_ok hown (htb _ m_73) (htb _ m_74) (htb _ m_8) hK hP hD hS hA rfl (fun j hj => by rcases (show j = 0 ∨ j = 1 ∨ j = 2 by omega) with rfl | rfl | rfl <;> rfl) (Nat.le_of_ble_eq_true rfl) (Nat.le_of_ble_eq_true rfl) d_PS_crash_31 (fun fq H hP hD hS => ?_)
  have hP : va_P (dC, dI) vwCl [(x, .inr (0, [.int lim, .int rm, .ref dl, .int 0, .ref sb, .ref dc, .ref cm, .ref fo])), (dc, .inl (cV, 3, .inr (.inr (.inr (.inr (fun _ => none)))))), (cm, .inl (cW, 3, .inr (.inr (.inr (.inr (fun _ => none)))))), (fq, .inr (14, [.null, .int 0, .int 0]))] H := hP
  have hD : va_D A [(x, .inr (0, [.int lim, .int rm, .ref dl, .int 0, .ref sb, .ref dc, .ref cm, .ref fo])), (dc, .inl (cV, 3, .inr (.inr (.inr (.inr (fun _ => none)))))), (cm, .inl (cW, 3, .inr (.inr (.inr (.inr (fun _ => none)))))), (fq, .inr (14, [.null, .int 0, .int 0]))] := hD
  refine W.widen (k := 1) (n := 3) (Nat.le_of_ble_eq_true rfl) (Nat.le_of_ble_eq_true rfl) ?_
  refine lv_dup hx hb d_PS_crash_34 rfl ?_
  have hPc := hP.sub (ws' := [(fq, .inr (14, [.null, .int 0, .int 0]))]) [3] rfl
  have hDc := hD.sub (ws' := [(fq, .inr (14, [.null, .int 0, .int 0]))]) [3] (by decide) rfl
  have hKc := hK.sub (tys' := []) [] rfl
  have hFc := va_free (wc := [(fq, .inr (14, [.null, .int 0, .int 0]))]) hD hS hA [3] rfl
  refine va_callv (va_runI (As := []) (rest := [.ref fq, .ref x]) ⟨hx, hb, hml, hown, htb⟩ (k_AL_init l dC dI _ fq em aK aV ) (cwI 0 htb (g_all (fun _ h => h) m_77) rfl rfl rfl (htb _ m_8) (htb _ m_75) (htb _ m_76) rfl (by decide +kernel) ⟨Nat.le_of_ble_eq_true rfl, Nat.le_of_ble_eq_true rfl⟩) ⟨fun a U g mk q => by obtain ⟨q0, q1, qP, qK, qD, z0⟩ := q; exact ⟨q0, q1, qP, va_K.moved (u := U) (U := U.calling g mk a) (Vm.Alike.refl U.vm) qK, qD, EX.same (U := U) (U' := U.calling g mk a) rfl z0⟩, fun U hU hW => ⟨rfl, by rw [hU], by rw [hU]; exact hPc, va_K.moved hW.alike hKc, hDc.weaken (fun _ _ _ _ => trivial), by rw [hU]; exact EX.warm hW ((hE.kept (fun a h1 h2 => hS.2.1 a h1 h2)).narrow hFc)⟩⟩ rfl rfl hl.1 rfl (lv_room (Nat.le_of_ble_eq_true rfl)) d_PS_crash_35 ⟨Nat.le_of_ble_eq_true rfl, Nat.le_of_ble_eq_true rfl⟩) hS (fun q _ h => hFc q h) hFc (fun u1 t H1 locs ht hvm hw3 hB hz1 hk1 hS => ?_)
  obtain ⟨hP1, hK1, hD1⟩ := hB
  rw [ht] at hP1
  have hK1 := va_K.moved hvm.symm hK1
  have hw3 : True := hw3
  obtain ⟨hP, hD⟩ := va_join (wr := [(x, .inr (0, [.int lim, .int rm, .ref dl, .int 0, .ref sb, .ref dc, .ref cm, .ref fo])), (dc, .inl (cV, 3, .inr (.inr (.inr (.inr (fun _ => none)))))), (cm, .inl (cW, 3, .inr (.inr (.inr (.inr (fun _ => none))))))]) (w1 := [(fq, .inr (14, [.ref em, .int 0, .int 0]))]) hP hD [3] [0, 1, 2] rfl rfl (by decide) (by decide) hk1 hFc hP1 hD1
  have hK := (hK.sub (tys' := [(cV, .object "PatchStore$Value"), (cW, .object "PatchStore$Value")]) [0, 1] rfl).app hK1
  generalize H1 = H at hP hS ⊢
  have hP : va_P (dC, dI) vwCl [(x, .inr (0, [.int lim, .int rm, .ref dl, .int 0, .ref sb, .ref dc, .ref cm, .ref fo])), (dc, .inl (cV, 3, .inr (.inr (.inr (.inr (fun _ => none)))))), (cm, .inl (cW, 3, .inr (.inr (.inr (.inr (fun _ => none)))))), (fq, .inr (14, [.ref em, .int 0, .int 0]))] H := hP
  have hD : va_D A [(x, .inr (0, [.int lim, .int rm, .ref dl, .int 0, .ref sb, .ref dc, .ref cm, .ref fo])), (dc, .inl (cV, 3, .inr (.inr (.inr (.inr (fun _ => none)))))), (cm, .inl (cW, 3, .inr (.inr (.inr (.inr (fun _ => none)))))), (fq, .inr (14, [.ref em, .int 0, .int 0]))] := hD
  have hK : va_K (dC, dI) vwCl [(cV, .object "PatchStore$Value"), (cW, .object "PatchStore$Value")] s := hK
  refine va_put (D := (dC, dI)) (ci := 0) (v := .ref fq) (ty := (.object "java/util/ArrayList")) (C := R_PS) (T := T_PS) (N := 8) hx hb htb in_PS ty_PS ty_PS_ok nm_PS hown hK hP hD hS 0 rfl rfl 7 (by decide) (htb _ m_106) (fun _ h9 => h9) rfl (by decide +kernel) rfl rfl (Nat.le_of_ble_eq_true rfl) d_PS_crash_38 (fun H locs hP hD hS => ?_)
  have hP : va_P (dC, dI) vwCl [(x, .inr (0, [.int lim, .int rm, .ref dl, .int 0, .ref sb, .ref dc, .ref cm, .ref fq])), (dc, .inl (cV, 3, .inr (.inr (.inr (.inr (fun _ => none)))))), (cm, .inl (cW, 3, .inr (.inr (.inr (.inr (fun _ => none)))))), (fq, .inr (14, [.ref em, .int 0, .int 0]))] H := hP
  have hD : va_D A [(x, .inr (0, [.int lim, .int rm, .ref dl, .int 0, .ref sb, .ref dc, .ref cm, .ref fq])), (dc, .inl (cV, 3, .inr (.inr (.inr (.inr (fun _ => none)))))), (cm, .inl (cW, 3, .inr (.inr (.inr (.inr (fun _ => none)))))), (fq, .inr (14, [.ref em, .int 0, .int 0]))] := hD
  have hP9 := hP.sub (ws' := [(x, .inr (0, [.int lim, .int rm, .ref dl, .int 0, .ref sb, .ref dc, .ref cm, .ref fq])), (dc, .inl (cV, 3, .inr (.inr (.inr (.inr (fun _ => none)))))), (cm, .inl (cW, 3, .inr (.inr (.inr (.inr (fun _ => none)))))), (fq, .inr (14, [.ref em, .int 0, .int 0]))]) [0, 1, 2, 3] rfl
  have hD9 := hD.sub (ws' := [(x, .inr (0, [.int lim, .int rm, .ref dl, .int 0, .ref sb, .ref dc, .ref cm, .ref fq])), (dc, .inl (cV, 3, .inr (.inr (.inr (.inr (fun _ => none)))))), (cm, .inl (cW, 3, .inr (.inr (.inr (.inr (fun _ => none)))))), (fq, .inr (14, [.ref em, .int 0, .int 0]))]) [0, 1, 2, 3] (by decide) rfl
  have hK9 := hK.sub (tys' := [(cV, .object "PatchStore$Value"), (cW, .object "PatchStore$Value")]) [0, 1] rfl
  refine W.widen (k := 1) (n := 3) (Nat.le_of_ble_eq_true rfl) (Nat.le_of_ble_eq_true rfl) ?_
  exact W.vret hx hb hr (fun t ht hW => ⟨⟨(), rfl, trivial, ⟨fq, by rw [ht]; exact hP9, va_K.moved hW.alike hK9, hD9⟩⟩, hS.F ht⟩) hS.2.2 d_PS_crash_41
