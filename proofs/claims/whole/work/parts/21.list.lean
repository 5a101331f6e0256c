/-- an object of the class ci of vwCl stands in the list of cells -/
def Vin (ci : Nat) (tl : va_W) (y : Nat) : Prop := ∃ fs : List Value, (y, Sum.inr (ci, fs)) ∈ tl
/-- ci is a class whose objects may stand in Object[] -/
def Oci (ci : Nat) : Prop := ∃ (C : String) (T : u_T) (N : Nat), vwCl[ci]? = some (C, T, N) ∧ Cond.castable C "java/lang/Object" ∈ NWs
theorem zz_any {em : Nat} {aK aV : Nat → Nat} {A : Nat → Prop} {H0 : Heap} {dC : Nat → ClassId} {dI : Nat → Nat → Nat} {tys : List (ClassId × FieldType)} {ws : va_W} {s : State} {H : Heap} {ci y : Nat} (hE : EX em aK aV A s H0) (hci : Oci ci) (hK : va_K (dC, dI) vwCl tys s) (hP : va_P (dC, dI) vwCl ws H) (h : Vin ci ws y) : va_Any "java/lang/Object" s H y := by
  obtain ⟨C, T, N, hc, hn⟩ := hci
  obtain ⟨fs, hm⟩ := h
  obtain ⟨q0, he⟩ := List.getElem?_of_mem hm
  obtain ⟨c0, t0, g1, g2, g3⟩ := Cond.castable_spec (va_Nw.use (A := #[]) rfl (hE.nw _ hn))
  exact va_rAny hK hP he hc (fun comp c1 h1 h2 => by
    cases g1.symm.trans h2
    cases g2.symm.trans h1
    exact g3)
theorem Vin.app {ci y : Nat} {tl : va_W} (pre : va_W) (h : Vin ci tl y) : Vin ci (pre ++ tl) y := ⟨h.choose, List.mem_append_right _ h.choose_spec⟩
theorem zz_arrO {dC : Nat → ClassId} {dI : Nat → Nat → Nat} {tys : List (ClassId × FieldType)} {ws : va_W} {s : State} {H : Heap} {a n : Nat} {cO : ClassId} {f : Nat → Option Nat} (hK : va_K (dC, dI) vwCl tys s) (hP : va_P (dC, dI) vwCl ws H) (q0 t0 : Nat) (he : ws[q0]? = some (a, .inl (cO, n, .inr (.inr (.inr (.inr f)))))) (ht : tys[t0]? = some (cO, .object "java/lang/Object")) : ∃ cell : Cell, H[a]? = some cell ∧ cell.vm.isStatics = false ∧ s.vm.findClass "[Ljava/lang/Object;" = some cell.cls := by
  obtain ⟨_, _, _, _, _, g⟩ := (hK.2 t0 _ ht).2
  exact ⟨_, hP q0 _ he, rfl, g⟩
set_option maxHeartbeats 1000000 in
set_option maxRecDepth 100000 in
/-- Arrays.copyOf of 10 elements to 15 -/
theorem k_AR_copyOf3_10 (l : Launch) (dC : Nat → ClassId) (dI : Nat → Nat → Nat) (sz : Nat) (ed : Nat) (cO : ClassId) (f : Nat → Option Nat) (ci : Nat) (em : Nat) (aK : Nat → Nat) (aV : Nat → Nat) (fz : va_W) (hci : Oci ci) (hel : ∀ i, i < 10 → ∀ y, f i = some y → Vin ci fz y) : Met l y_AR_copyOf3 ws_AR_copyOf3 ({ frames := 1, cells := 1, slots := 15, locals := 40 }) (va_Pc [.ref ed, .int 15, .ref (aK 100)] (fun U => U.heap.size = sz ∧ va_P (dC, dI) vwCl ([(ed, .inl (cO, 10, .inr (.inr (.inr (.inr f)))))] ++ fz) U.heap ∧ va_K (dC, dI) vwCl [(cO, .object "java/lang/Object")] U ∧ va_D (fun _ => True) ([(ed, .inl (cO, 10, .inr (.inr (.inr (.inr f)))))] ++ fz) ∧ EX em aK aV (va_A ([(ed, .inl (cO, 10, .inr (.inr (.inr (.inr f)))))] ++ fz) sz) U U.heap)) (va_Qr (fun (u : Unit) => True) (fun u ra t => va_P (dC, dI) vwCl ([(ed, .inl (cO, 10, .inr (.inr (.inr (.inr f))))), (ra, .inl (cO, 15, .inr (.inr (.inr (.inr (va_cpy f (fun _ => none) 0 0 10))))))] ++ fz) t.heap ∧ va_K (dC, dI) vwCl [(cO, .object "java/lang/Object")] t ∧ va_D (va_A ([(ed, .inl (cO, 10, .inr (.inr (.inr (.inr f)))))] ++ fz) sz) ([(ed, .inl (cO, 10, .inr (.inr (.inr (.inr f))))), (ra, .inl (cO, 15, .inr (.inr (.inr (.inr (va_cpy f (fun _ => none) 0 0 10))))))] ++ fz)) (va_A ([(ed, .inl (cO, 10, .inr (.inr (.inr (.inr f)))))] ++ fz) sz)) 1 15 (va_A ([(ed, .inl (cO, 10, .inr (.inr (.inr (.inr f)))))] ++ fz) sz) := by
  refine Met.ofW (cc := c_AR_copyOf3) (maxL := 4) (ret := (some (.array (.object "java/lang/Object")))) (by decide) rfl ?_
  intro p e s m args below meth c s₁ B hml hv
  obtain ⟨rfl, hsz, hP, hK, hD0, hE⟩ := hv
  have hx := B.exec
  have hb := B.bytes
  have hr := B.returns
  have hts := atoms_spec (ws := ws_AR_copyOf3) B.pre
  have htb := fun w (h : w ∈ TBL) => hts w (List.mem_cons_of_mem _ h)
  have hown : s.vm.findClass R_AR = some m.cls := findClass_of_methodNamed B.named
  have hlocks := B.notSynchronized
  subst hsz
  have hD := hD0.self (sz := s.heap.size)
  generalize hAe : va_A ([(ed, .inl (cO, 10, .inr (.inr (.inr (.inr f)))))] ++ fz) s.heap.size = A at hD hE ⊢
  have hA : ∀ q : Nat, s.heap.size ≤ q → A q := fun q h => by rw [← hAe]; exact Or.inr h
  have hS : va_S A s.heap s.heap [] := va_S.rf
  have hP : va_P (dC, dI) vwCl ([(ed, .inl (cO, 10, .inr (.inr (.inr (.inr f)))))] ++ fz) s.heap := hP
  have hl := lv_entry ([.ref ed, .int 15, .ref (aK 100)]) (n := 4) (Nat.le_of_ble_eq_true rfl)
  rw [lg_entry_eq]
  generalize (lg_sl ([.ref ed, .int 15, .ref (aK 100)]) ++ List.replicate (4 - (lg_sl ([.ref ed, .int 15, .ref (aK 100)])).length) Slot.unset).toArray = ls at hl ⊢
  have hl : lv_has ls 4 [(0, .ref ed), (1, .int 15), (2, .ref (aK 100))] := hl
  refine lv_aload_n hx hb d_AR_copyOf3_0 rfl (lv_at hl 2 rfl) ?_
  refine va_ldcM hx hb hown (htb _ m_565) hE.mirror d_AR_copyOf3_1 ?_
  refine lv_acmp_ne (rx := some (aK 100)) (ry := some (aK 100)) (tgt := 13) hx hb d_AR_copyOf3_3 rfl (fun h9 => absurd rfl h9) (fun _ => ?_)
  refine lv_iload_n hx hb d_AR_copyOf3_6 rfl (lv_at hl 1 rfl) ?_
  refine va_newq (N' := 15) hx hb hown (htb _ m_567) hE.overO hK hP hD hS hA (by decide) (by decide) (by decide) (Nat.le_of_ble_eq_true rfl) (Nat.le_of_ble_eq_true rfl) d_AR_copyOf3_7 (fun eq cN H hK hP hD hS => ?_)
  have hP := zz_rotP (pre := [(ed, .inl (cO, 10, .inr (.inr (.inr (.inr f)))))]) (fz := fz) hP
  have hD := zz_rotD (pre := [(ed, .inl (cO, 10, .inr (.inr (.inr (.inr f)))))]) (fz := fz) hD
  have hK : va_K (dC, dI) vwCl [(cO, .object "java/lang/Object"), (cN, .object "java/lang/Object")] s := hK
  have hP : va_P (dC, dI) vwCl ([(ed, .inl (cO, 10, .inr (.inr (.inr (.inr f))))), (eq, .inl (cN, 15, .inr (.inr (.inr (.inr (fun _ => none))))))] ++ fz) H := hP
  have hD : va_D A ([(ed, .inl (cO, 10, .inr (.inr (.inr (.inr f))))), (eq, .inl (cN, 15, .inr (.inr (.inr (.inr (fun _ => none))))))] ++ fz) := hD
  refine W.widen (k := 1) (n := 15) (Nat.le_of_ble_eq_true rfl) (Nat.le_of_ble_eq_true rfl) ?_
  obtain rfl : cO = cN := zz_ty hK 0 1 rfl rfl
  have hK := hK.sub (tys' := [(cO, .object "java/lang/Object")]) [0] rfl
  have hP : va_P (dC, dI) vwCl ([(ed, .inl (cO, 10, .inr (.inr (.inr (.inr f))))), (eq, .inl (cO, 15, .inr (.inr (.inr (.inr (fun _ => none))))))] ++ fz) H := hP
  have hD : va_D A ([(ed, .inl (cO, 10, .inr (.inr (.inr (.inr f))))), (eq, .inl (cO, 15, .inr (.inr (.inr (.inr (fun _ => none))))))] ++ fz) := hD
  refine lv_goto (tgt := 24) hx hb d_AR_copyOf3_10 rfl ?_
  refine lv_astore_n hx hb d_AR_copyOf3_24 rfl hl (by decide) rfl (fun ls hl => ?_)
  have hl : lv_has ls 4 [(3, .ref eq), (0, .ref ed), (1, .int 15), (2, .ref (aK 100))] := hl
  refine lv_aload_n hx hb d_AR_copyOf3_25 rfl (lv_at hl 1 rfl) ?_
  refine lv_iconst (v := 0) hx hb d_AR_copyOf3_26 (by decide) ?_
  refine lv_aload_n hx hb d_AR_copyOf3_27 rfl (lv_at hl 0 rfl) ?_
  refine lv_iconst (v := 0) hx hb d_AR_copyOf3_28 (by decide) ?_
  refine lv_aload_n hx hb d_AR_copyOf3_29 rfl (lv_at hl 1 rfl) ?_
  refine va_alen (v := 10) hx hb hK hP 0 0 rfl rfl rfl d_AR_copyOf3_30 ?_
  refine lv_iload_n hx hb d_AR_copyOf3_31 rfl (lv_at hl 2 rfl) ?_
  refine va_mmin hx hb (hml.trans hl.1.symm) hown (htb _ m_229) (htb _ m_230) (htb _ m_13) (htb _ m_231) (Nat.le_of_ble_eq_true rfl) (Nat.le_of_ble_eq_true rfl) (Nat.le_of_ble_eq_true rfl) (Nat.le_of_ble_eq_true rfl) d_AR_copyOf3_32 ?_
  refine W.eq (congrArg (fun z => F0 m 35 ls (.int z :: [.int 0, .ref eq, .int 0, .ref ed])) (by decide : (if (15 : Int32) < 10 then 15 else (10 : Int32)) = 10)) ?_
  refine va_copyM hx hb (hml.trans hl.1.symm) hown (htb _ m_232) (htb _ m_234) (htb _ m_233) (htb _ m_15) hK hP hD hS 0 1 0 0 rfl rfl rfl rfl (by decide) (by decide) (by decide) (by decide) (by decide) (fun i hi y hy => zz_any hE hci hK hP ((hel i hi y (by rw [← hy]; simp)).app _)) (Nat.le_of_ble_eq_true rfl) (by decide) d_AR_copyOf3_35 (fun H locs hP hD hS => ?_)
  rw [(rfl : va_cpy f (fun _ => none) (0 : Int32).toNatClampNeg (0 : Int32).toNatClampNeg (10 : Int32).toNatClampNeg = (va_cpy f (fun _ => none) 0 0 10))] at hP hD
  have hP : va_P (dC, dI) vwCl ([(ed, .inl (cO, 10, .inr (.inr (.inr (.inr f))))), (eq, .inl (cO, 15, .inr (.inr (.inr (.inr (va_cpy f (fun _ => none) 0 0 10))))))] ++ fz) H := hP
  have hD : va_D A ([(ed, .inl (cO, 10, .inr (.inr (.inr (.inr f))))), (eq, .inl (cO, 15, .inr (.inr (.inr (.inr (va_cpy f (fun _ => none) 0 0 10))))))] ++ fz) := hD
  refine lv_aload_n hx hb d_AR_copyOf3_38 rfl (lv_at hl 0 rfl) ?_
  have hP9 := zz_pickP (pre := [(ed, .inl (cO, 10, .inr (.inr (.inr (.inr f))))), (eq, .inl (cO, 15, .inr (.inr (.inr (.inr (va_cpy f (fun _ => none) 0 0 10))))))]) (fz := fz) (wc := [(ed, .inl (cO, 10, .inr (.inr (.inr (.inr f))))), (eq, .inl (cO, 15, .inr (.inr (.inr (.inr (va_cpy f (fun _ => none) 0 0 10))))))]) hP [0, 1] rfl
  have hD9 := zz_pickD (pre := [(ed, .inl (cO, 10, .inr (.inr (.inr (.inr f))))), (eq, .inl (cO, 15, .inr (.inr (.inr (.inr (va_cpy f (fun _ => none) 0 0 10))))))]) (fz := fz) (wc := [(ed, .inl (cO, 10, .inr (.inr (.inr (.inr f))))), (eq, .inl (cO, 15, .inr (.inr (.inr (.inr (va_cpy f (fun _ => none) 0 0 10))))))]) hD [0, 1] (by decide) rfl
  have hK9 := hK.sub (tys' := [(cO, .object "java/lang/Object")]) [0] rfl
  refine W.widen (k := 1) (n := 15) (Nat.le_of_ble_eq_true rfl) (Nat.le_of_ble_eq_true rfl) ?_
  exact W.aret (v := .ref eq) hx hb hr (Or.inr ⟨_, rfl⟩) (Or.inr ⟨_, rfl⟩) (fun t ht hW => ⟨⟨(), eq, rfl, trivial, ⟨by rw [ht]; exact hP9, va_K.moved hW.alike hK9, hD9⟩⟩, hS.F ht⟩) hS.2.2 d_AR_copyOf3_39
set_option maxHeartbeats 1000000 in
set_option maxRecDepth 100000 in
/-- Arrays.copyOf of 10 elements to 15 -/
theorem k_AR_copyOf2_10 (l : Launch) (dC : Nat → ClassId) (dI : Nat → Nat → Nat) (sz : Nat) (ed : Nat) (cO : ClassId) (f : Nat → Option Nat) (ci : Nat) (em : Nat) (aK : Nat → Nat) (aV : Nat → Nat) (fz : va_W) (hci : Oci ci) (hel : ∀ i, i < 10 → ∀ y, f i = some y → Vin ci fz y) : Met l y_AR_copyOf2 ws_AR_copyOf2 ({ frames := 2, cells := 1, slots := 15, locals := 63 }) (va_Pc [.ref ed, .int 15] (fun U => U.heap.size = sz ∧ va_P (dC, dI) vwCl ([(ed, .inl (cO, 10, .inr (.inr (.inr (.inr f)))))] ++ fz) U.heap ∧ va_K (dC, dI) vwCl [(cO, .object "java/lang/Object")] U ∧ va_D (fun _ => True) ([(ed, .inl (cO, 10, .inr (.inr (.inr (.inr f)))))] ++ fz) ∧ EX em aK aV (va_A ([(ed, .inl (cO, 10, .inr (.inr (.inr (.inr f)))))] ++ fz) sz) U U.heap)) (va_Qr (fun (u : Unit) => True) (fun u ra t => va_P (dC, dI) vwCl ([(ed, .inl (cO, 10, .inr (.inr (.inr (.inr f))))), (ra, .inl (cO, 15, .inr (.inr (.inr (.inr (va_cpy f (fun _ => none) 0 0 10))))))] ++ fz) t.heap ∧ va_K (dC, dI) vwCl [(cO, .object "java/lang/Object")] t ∧ va_D (va_A ([(ed, .inl (cO, 10, .inr (.inr (.inr (.inr f)))))] ++ fz) sz) ([(ed, .inl (cO, 10, .inr (.inr (.inr (.inr f))))), (ra, .inl (cO, 15, .inr (.inr (.inr (.inr (va_cpy f (fun _ => none) 0 0 10))))))] ++ fz)) (va_A ([(ed, .inl (cO, 10, .inr (.inr (.inr (.inr f)))))] ++ fz) sz)) 1 15 (va_A ([(ed, .inl (cO, 10, .inr (.inr (.inr (.inr f)))))] ++ fz) sz) := by
  refine Met.ofW (cc := c_AR_copyOf2) (maxL := 2) (ret := (some (.array (.object "java/lang/Object")))) (by decide) rfl ?_
  intro p e s m args below meth c s₁ B hml hv
  obtain ⟨rfl, hsz, hP, hK, hD0, hE⟩ := hv
  have hx := B.exec
  have hb := B.bytes
  have hr := B.returns
  have hts := atoms_spec (ws := ws_AR_copyOf2) B.pre
  have htb := fun w (h : w ∈ TBL) => hts w (List.mem_cons_of_mem _ h)
  have hown : s.vm.findClass R_AR = some m.cls := findClass_of_methodNamed B.named
  have hlocks := B.notSynchronized
  subst hsz
  have hD := hD0.self (sz := s.heap.size)
  generalize hAe : va_A ([(ed, .inl (cO, 10, .inr (.inr (.inr (.inr f)))))] ++ fz) s.heap.size = A at hD hE ⊢
  have hA : ∀ q : Nat, s.heap.size ≤ q → A q := fun q h => by rw [← hAe]; exact Or.inr h
  have hS : va_S A s.heap s.heap [] := va_S.rf
  have hP : va_P (dC, dI) vwCl ([(ed, .inl (cO, 10, .inr (.inr (.inr (.inr f)))))] ++ fz) s.heap := hP
  have hl := lv_entry ([.ref ed, .int 15]) (n := 2) (Nat.le_of_ble_eq_true rfl)
  rw [lg_entry_eq]
  generalize (lg_sl ([.ref ed, .int 15]) ++ List.replicate (2 - (lg_sl ([.ref ed, .int 15])).length) Slot.unset).toArray = ls at hl ⊢
  have hl : lv_has ls 2 [(0, .ref ed), (1, .int 15)] := hl
  refine lv_aload_n hx hb d_AR_copyOf2_0 rfl (lv_at hl 0 rfl) ?_
  refine lv_iload_n hx hb d_AR_copyOf2_1 rfl (lv_at hl 1 rfl) ?_
  refine lv_aload_n hx hb d_AR_copyOf2_2 rfl (lv_at hl 0 rfl) ?_
  refine va_getC (C := "[Ljava/lang/Object;") hx hb (hml.trans hl.1.symm) hown (htb _ m_542) (va_Nw.use rfl (nw_18 hE)) (htb _ m_1610) (htb _ m_543) (htb _ m_561) hE.mirror (zz_arrO hK hP 0 0 rfl rfl) (Nat.le_of_ble_eq_true rfl) (Nat.le_of_ble_eq_true rfl) d_AR_copyOf2_3 ?_
  have hPc := zz_pickP (pre := [(ed, .inl (cO, 10, .inr (.inr (.inr (.inr f)))))]) (fz := fz) (wc := [(ed, .inl (cO, 10, .inr (.inr (.inr (.inr f)))))]) hP [0] rfl
  have hDc := zz_pickD (pre := [(ed, .inl (cO, 10, .inr (.inr (.inr (.inr f)))))]) (fz := fz) (wc := [(ed, .inl (cO, 10, .inr (.inr (.inr (.inr f)))))]) hD [0] (by decide) rfl
  have hFc := zz_free (pre := [(ed, .inl (cO, 10, .inr (.inr (.inr (.inr f)))))]) (fz := fz) (wc := [(ed, .inl (cO, 10, .inr (.inr (.inr (.inr f)))))]) hD hS hA [0] rfl
  have hKc := hK.sub (tys' := [(cO, .object "java/lang/Object")]) [0] rfl
  refine va_callr (va_runS (As := [.ref ed, .int 15, .ref (aK 100)]) (rest := []) ⟨hx, hb, hml, hown, htb⟩ (k_AR_copyOf3_10 l dC dI _ ed cO f ci em aK aV fz hci hel) (va_cwS 3 htb (g_S (fun _ h => h) m_564 m_562 m_563 m_14) rfl rfl rfl (by decide +kernel) ⟨Nat.le_of_ble_eq_true rfl, Nat.le_of_ble_eq_true rfl⟩) ⟨fun a U g mk q => by obtain ⟨q0, q1, qP, qK, qD, z0⟩ := q; exact ⟨q0, q1, qP, va_K.moved (u := U) (U := U.calling g mk a) (Vm.Alike.refl U.vm) qK, qD, EX.same (U := U) (U' := U.calling g mk a) rfl z0⟩, fun U hU hW => ⟨rfl, by rw [hU], by rw [hU]; exact hPc, va_K.moved hW.alike hKc, hDc.weaken (fun _ _ _ _ => trivial), by rw [hU]; exact EX.warm hW ((hE.kept (fun a h1 h2 => hS.2.1 a h1 h2)).narrow hFc)⟩⟩ rfl rfl hl.1 rfl (lv_room (Nat.le_of_ble_eq_true rfl)) d_AR_copyOf2_6 ⟨Nat.le_of_ble_eq_true rfl, Nat.le_of_ble_eq_true rfl⟩) hS (fun q _ h => hFc q h) hFc (fun u1 ra4 t H1 locs ht hvm hw3 hB hz1 hk1 hS => ?_)
  obtain ⟨hP1, hK1, hD1⟩ := hB
  rw [ht] at hP1
  have hK1 := va_K.moved hvm.symm hK1
  have hw3 : True := hw3
  obtain ⟨hP, hD⟩ := zz_join (pre := [(ed, .inl (cO, 10, .inr (.inr (.inr (.inr f)))))]) (fz := fz) (wc := [(ed, .inl (cO, 10, .inr (.inr (.inr (.inr f)))))]) (wr := []) (w1 := ([(ed, .inl (cO, 10, .inr (.inr (.inr (.inr f))))), (ra4, .inl (cO, 15, .inr (.inr (.inr (.inr (va_cpy f (fun _ => none) 0 0 10))))))] ++ fz)) hP hD [0] [] rfl rfl (by decide) (by decide) hk1 hFc hP1 hD1
  have hK := (hK.sub (tys' := []) [] rfl).app hK1
  generalize H1 = H at hP hS ⊢
  have hP : va_P (dC, dI) vwCl ([(ed, .inl (cO, 10, .inr (.inr (.inr (.inr f))))), (ra4, .inl (cO, 15, .inr (.inr (.inr (.inr (va_cpy f (fun _ => none) 0 0 10))))))] ++ fz) H := hP
  have hD : va_D A ([(ed, .inl (cO, 10, .inr (.inr (.inr (.inr f))))), (ra4, .inl (cO, 15, .inr (.inr (.inr (.inr (va_cpy f (fun _ => none) 0 0 10))))))] ++ fz) := hD
  have hK : va_K (dC, dI) vwCl [(cO, .object "java/lang/Object")] s := hK
  refine W.widen (k := 1) (n := 15) (Nat.le_of_ble_eq_true rfl) (Nat.le_of_ble_eq_true rfl) ?_
  have hP9 := zz_pickP (pre := [(ed, .inl (cO, 10, .inr (.inr (.inr (.inr f))))), (ra4, .inl (cO, 15, .inr (.inr (.inr (.inr (va_cpy f (fun _ => none) 0 0 10))))))]) (fz := fz) (wc := [(ed, .inl (cO, 10, .inr (.inr (.inr (.inr f))))), (ra4, .inl (cO, 15, .inr (.inr (.inr (.inr (va_cpy f (fun _ => none) 0 0 10))))))]) hP [0, 1] rfl
  have hD9 := zz_pickD (pre := [(ed, .inl (cO, 10, .inr (.inr (.inr (.inr f))))), (ra4, .inl (cO, 15, .inr (.inr (.inr (.inr (va_cpy f (fun _ => none) 0 0 10))))))]) (fz := fz) (wc := [(ed, .inl (cO, 10, .inr (.inr (.inr (.inr f))))), (ra4, .inl (cO, 15, .inr (.inr (.inr (.inr (va_cpy f (fun _ => none) 0 0 10))))))]) hD [0, 1] (by decide) rfl
  have hK9 := hK.sub (tys' := [(cO, .object "java/lang/Object")]) [0] rfl
  refine W.widen (k := 1) (n := 15) (Nat.le_of_ble_eq_true rfl) (Nat.le_of_ble_eq_true rfl) ?_
  exact W.aret (v := .ref ra4) hx hb hr (Or.inr ⟨_, rfl⟩) (Or.inr ⟨_, rfl⟩) (fun t ht hW => ⟨⟨(), ra4, rfl, trivial, ⟨by rw [ht]; exact hP9, va_K.moved hW.alike hK9, hD9⟩⟩, hS.F ht⟩) hS.2.2 d_AR_copyOf2_9
set_option maxHeartbeats 1000000 in
set_option maxRecDepth 100000 in
/-- Arrays.copyOf of 15 elements to 22 -/
theorem k_AR_copyOf3_15 (l : Launch) (dC : Nat → ClassId) (dI : Nat → Nat → Nat) (sz : Nat) (ed : Nat) (cO : ClassId) (f : Nat → Option Nat) (ci : Nat) (em : Nat) (aK : Nat → Nat) (aV : Nat → Nat) (fz : va_W) (hci : Oci ci) (hel : ∀ i, i < 15 → ∀ y, f i = some y → Vin ci fz y) : Met l y_AR_copyOf3 ws_AR_copyOf3 ({ frames := 1, cells := 1, slots := 22, locals := 40 }) (va_Pc [.ref ed, .int 22, .ref (aK 100)] (fun U => U.heap.size = sz ∧ va_P (dC, dI) vwCl ([(ed, .inl (cO, 15, .inr (.inr (.inr (.inr f)))))] ++ fz) U.heap ∧ va_K (dC, dI) vwCl [(cO, .object "java/lang/Object")] U ∧ va_D (fun _ => True) ([(ed, .inl (cO, 15, .inr (.inr (.inr (.inr f)))))] ++ fz) ∧ EX em aK aV (va_A ([(ed, .inl (cO, 15, .inr (.inr (.inr (.inr f)))))] ++ fz) sz) U U.heap)) (va_Qr (fun (u : Unit) => True) (fun u ra t => va_P (dC, dI) vwCl ([(ed, .inl (cO, 15, .inr (.inr (.inr (.inr f))))), (ra, .inl (cO, 22, .inr (.inr (.inr (.inr (va_cpy f (fun _ => none) 0 0 15))))))] ++ fz) t.heap ∧ va_K (dC, dI) vwCl [(cO, .object "java/lang/Object")] t ∧ va_D (va_A ([(ed, .inl (cO, 15, .inr (.inr (.inr (.inr f)))))] ++ fz) sz) ([(ed, .inl (cO, 15, .inr (.inr (.inr (.inr f))))), (ra, .inl (cO, 22, .inr (.inr (.inr (.inr (va_cpy f (fun _ => none) 0 0 15))))))] ++ fz)) (va_A ([(ed, .inl (cO, 15, .inr (.inr (.inr (.inr f)))))] ++ fz) sz)) 1 22 (va_A ([(ed, .inl (cO, 15, .inr (.inr (.inr (.inr f)))))] ++ fz) sz) := by
  refine Met.ofW (cc := c_AR_copyOf3) (maxL := 4) (ret := (some (.array (.object "java/lang/Object")))) (by decide) rfl ?_
  intro p e s m args below meth c s₁ B hml hv
  obtain ⟨rfl, hsz, hP, hK, hD0, hE⟩ := hv
  have hx := B.exec
  have hb := B.bytes
  have hr := B.returns
  have hts := atoms_spec (ws := ws_AR_copyOf3) B.pre
  have htb := fun w (h : w ∈ TBL) => hts w (List.mem_cons_of_mem _ h)
  have hown : s.vm.findClass R_AR = some m.cls := findClass_of_methodNamed B.named
  have hlocks := B.notSynchronized
  subst hsz
  have hD := hD0.self (sz := s.heap.size)
  generalize hAe : va_A ([(ed, .inl (cO, 15, .inr (.inr (.inr (.inr f)))))] ++ fz) s.heap.size = A at hD hE ⊢
  have hA : ∀ q : Nat, s.heap.size ≤ q → A q := fun q h => by rw [← hAe]; exact Or.inr h
  have hS : va_S A s.heap s.heap [] := va_S.rf
  have hP : va_P (dC, dI) vwCl ([(ed, .inl (cO, 15, .inr (.inr (.inr (.inr f)))))] ++ fz) s.heap := hP
  have hl := lv_entry ([.ref ed, .int 22, .ref (aK 100)]) (n := 4) (Nat.le_of_ble_eq_true rfl)
  rw [lg_entry_eq]
  generalize (lg_sl ([.ref ed, .int 22, .ref (aK 100)]) ++ List.replicate (4 - (lg_sl ([.ref ed, .int 22, .ref (aK 100)])).length) Slot.unset).toArray = ls at hl ⊢
  have hl : lv_has ls 4 [(0, .ref ed), (1, .int 22), (2, .ref (aK 100))] := hl
  refine lv_aload_n hx hb d_AR_copyOf3_0 rfl (lv_at hl 2 rfl) ?_
  refine va_ldcM hx hb hown (htb _ m_565) hE.mirror d_AR_copyOf3_1 ?_
  refine lv_acmp_ne (rx := some (aK 100)) (ry := some (aK 100)) (tgt := 13) hx hb d_AR_copyOf3_3 rfl (fun h9 => absurd rfl h9) (fun _ => ?_)
  refine lv_iload_n hx hb d_AR_copyOf3_6 rfl (lv_at hl 1 rfl) ?_
  refine va_newq (N' := 22) hx hb hown (htb _ m_567) hE.overO hK hP hD hS hA (by decide) (by decide) (by decide) (Nat.le_of_ble_eq_true rfl) (Nat.le_of_ble_eq_true rfl) d_AR_copyOf3_7 (fun eq cN H hK hP hD hS => ?_)
  have hP := zz_rotP (pre := [(ed, .inl (cO, 15, .inr (.inr (.inr (.inr f)))))]) (fz := fz) hP
  have hD := zz_rotD (pre := [(ed, .inl (cO, 15, .inr (.inr (.inr (.inr f)))))]) (fz := fz) hD
  have hK : va_K (dC, dI) vwCl [(cO, .object "java/lang/Object"), (cN, .object "java/lang/Object")] s := hK
  have hP : va_P (dC, dI) vwCl ([(ed, .inl (cO, 15, .inr (.inr (.inr (.inr f))))), (eq, .inl (cN, 22, .inr (.inr (.inr (.inr (fun _ => none))))))] ++ fz) H := hP
  have hD : va_D A ([(ed, .inl (cO, 15, .inr (.inr (.inr (.inr f))))), (eq, .inl (cN, 22, .inr (.inr (.inr (.inr (fun _ => none))))))] ++ fz) := hD
  refine W.widen (k := 1) (n := 22) (Nat.le_of_ble_eq_true rfl) (Nat.le_of_ble_eq_true rfl) ?_
  obtain rfl : cO = cN := zz_ty hK 0 1 rfl rfl
  have hK := hK.sub (tys' := [(cO, .object "java/lang/Object")]) [0] rfl
  have hP : va_P (dC, dI) vwCl ([(ed, .inl (cO, 15, .inr (.inr (.inr (.inr f))))), (eq, .inl (cO, 22, .inr (.inr (.inr (.inr (fun _ => none))))))] ++ fz) H := hP
  have hD : va_D A ([(ed, .inl (cO, 15, .inr (.inr (.inr (.inr f))))), (eq, .inl (cO, 22, .inr (.inr (.inr (.inr (fun _ => none))))))] ++ fz) := hD
  refine lv_goto (tgt := 24) hx hb d_AR_copyOf3_10 rfl ?_
  refine lv_astore_n hx hb d_AR_copyOf3_24 rfl hl (by decide) rfl (fun ls hl => ?_)
  have hl : lv_has ls 4 [(3, .ref eq), (0, .ref ed), (1, .int 22), (2, .ref (aK 100))] := hl
  refine lv_aload_n hx hb d_AR_copyOf3_25 rfl (lv_at hl 1 rfl) ?_
  refine lv_iconst (v := 0) hx hb d_AR_copyOf3_26 (by decide) ?_
  refine lv_aload_n hx hb d_AR_copyOf3_27 rfl (lv_at hl 0 rfl) ?_
  refine lv_iconst (v := 0) hx hb d_AR_copyOf3_28 (by decide) ?_
  refine lv_aload_n hx hb d_AR_copyOf3_29 rfl (lv_at hl 1 rfl) ?_
  refine va_alen (v := 15) hx hb hK hP 0 0 rfl rfl rfl d_AR_copyOf3_30 ?_
  refine lv_iload_n hx hb d_AR_copyOf3_31 rfl (lv_at hl 2 rfl) ?_
  refine va_mmin hx hb (hml.trans hl.1.symm) hown (htb _ m_229) (htb _ m_230) (htb _ m_13) (htb _ m_231) (Nat.le_of_ble_eq_true rfl) (Nat.le_of_ble_eq_true rfl) (Nat.le_of_ble_eq_true rfl) (Nat.le_of_ble_eq_true rfl) d_AR_copyOf3_32 ?_
  refine W.eq (congrArg (fun z => F0 m 35 ls (.int z :: [.int 0, .ref eq, .int 0, .ref ed])) (by decide : (if (22 : Int32) < 15 then 22 else (15 : Int32)) = 15)) ?_
  refine va_copyM hx hb (hml.trans hl.1.symm) hown (htb _ m_232) (htb _ m_234) (htb _ m_233) (htb _ m_15) hK hP hD hS 0 1 0 0 rfl rfl rfl rfl (by decide) (by decide) (by decide) (by decide) (by decide) (fun i hi y hy => zz_any hE hci hK hP ((hel i hi y (by rw [← hy]; simp)).app _)) (Nat.le_of_ble_eq_true rfl) (by decide) d_AR_copyOf3_35 (fun H locs hP hD hS => ?_)
  rw [(rfl : va_cpy f (fun _ => none) (0 : Int32).toNatClampNeg (0 : Int32).toNatClampNeg (15 : Int32).toNatClampNeg = (va_cpy f (fun _ => none) 0 0 15))] at hP hD
  have hP : va_P (dC, dI) vwCl ([(ed, .inl (cO, 15, .inr (.inr (.inr (.inr f))))), (eq, .inl (cO, 22, .inr (.inr (.inr (.inr (va_cpy f (fun _ => none) 0 0 15))))))] ++ fz) H := hP
  have hD : va_D A ([(ed, .inl (cO, 15, .inr (.inr (.inr (.inr f))))), (eq, .inl (cO, 22, .inr (.inr (.inr (.inr (va_cpy f (fun _ => none) 0 0 15))))))] ++ fz) := hD
  refine lv_aload_n hx hb d_AR_copyOf3_38 rfl (lv_at hl 0 rfl) ?_
  have hP9 := zz_pickP (pre := [(ed, .inl (cO, 15, .inr (.inr (.inr (.inr f))))), (eq, .inl (cO, 22, .inr (.inr (.inr (.inr (va_cpy f (fun _ => none) 0 0 15))))))]) (fz := fz) (wc := [(ed, .inl (cO, 15, .inr (.inr (.inr (.inr f))))), (eq, .inl (cO, 22, .inr (.inr (.inr (.inr (va_cpy f (fun _ => none) 0 0 15))))))]) hP [0, 1] rfl
  have hD9 := zz_pickD (pre := [(ed, .inl (cO, 15, .inr (.inr (.inr (.inr f))))), (eq, .inl (cO, 22, .inr (.inr (.inr (.inr (va_cpy f (fun _ => none) 0 0 15))))))]) (fz := fz) (wc := [(ed, .inl (cO, 15, .inr (.inr (.inr (.inr f))))), (eq, .inl (cO, 22, .inr (.inr (.inr (.inr (va_cpy f (fun _ => none) 0 0 15))))))]) hD [0, 1] (by decide) rfl
  have hK9 := hK.sub (tys' := [(cO, .object "java/lang/Object")]) [0] rfl
  refine W.widen (k := 1) (n := 22) (Nat.le_of_ble_eq_true rfl) (Nat.le_of_ble_eq_true rfl) ?_
  exact W.aret (v := .ref eq) hx hb hr (Or.inr ⟨_, rfl⟩) (Or.inr ⟨_, rfl⟩) (fun t ht hW => ⟨⟨(), eq, rfl, trivial, ⟨by rw [ht]; exact hP9, va_K.moved hW.alike hK9, hD9⟩⟩, hS.F ht⟩) hS.2.2 d_AR_copyOf3_39
set_option maxHeartbeats 1000000 in
set_option maxRecDepth 100000 in
/-- Arrays.copyOf of 15 elements to 22 -/
theorem k_AR_copyOf2_15 (l : Launch) (dC : Nat → ClassId) (dI : Nat → Nat → Nat) (sz : Nat) (ed : Nat) (cO : ClassId) (f : Nat → Option Nat) (ci : Nat) (em : Nat) (aK : Nat → Nat) (aV : Nat → Nat) (fz : va_W) (hci : Oci ci) (hel : ∀ i, i < 15 → ∀ y, f i = some y → Vin ci fz y) : Met l y_AR_copyOf2 ws_AR_copyOf2 ({ frames := 2, cells := 1, slots := 22, locals := 63 }) (va_Pc [.ref ed, .int 22] (fun U => U.heap.size = sz ∧ va_P (dC, dI) vwCl ([(ed, .inl (cO, 15, .inr (.inr (.inr (.inr f)))))] ++ fz) U.heap ∧ va_K (dC, dI) vwCl [(cO, .object "java/lang/Object")] U ∧ va_D (fun _ => True) ([(ed, .inl (cO, 15, .inr (.inr (.inr (.inr f)))))] ++ fz) ∧ EX em aK aV (va_A ([(ed, .inl (cO, 15, .inr (.inr (.inr (.inr f)))))] ++ fz) sz) U U.heap)) (va_Qr (fun (u : Unit) => True) (fun u ra t => va_P (dC, dI) vwCl ([(ed, .inl (cO, 15, .inr (.inr (.inr (.inr f))))), (ra, .inl (cO, 22, .inr (.inr (.inr (.inr (va_cpy f (fun _ => none) 0 0 15))))))] ++ fz) t.heap ∧ va_K (dC, dI) vwCl [(cO, .object "java/lang/Object")] t ∧ va_D (va_A ([(ed, .inl (cO, 15, .inr (.inr (.inr (.inr f)))))] ++ fz) sz) ([(ed, .inl (cO, 15, .inr (.inr (.inr (.inr f))))), (ra, .inl (cO, 22, .inr (.inr (.inr (.inr (va_cpy f (fun _ => none) 0 0 15))))))] ++ fz)) (va_A ([(ed, .inl (cO, 15, .inr (.inr (.inr (.inr f)))))] ++ fz) sz)) 1 22 (va_A ([(ed, .inl (cO, 15, .inr (.inr (.inr (.inr f)))))] ++ fz) sz) := by
  refine Met.ofW (cc := c_AR_copyOf2) (maxL := 2) (ret := (some (.array (.object "java/lang/Object")))) (by decide) rfl ?_
  intro p e s m args below meth c s₁ B hml hv
  obtain ⟨rfl, hsz, hP, hK, hD0, hE⟩ := hv
  have hx := B.exec
  have hb := B.bytes
  have hr := B.returns
  have hts := atoms_spec (ws := ws_AR_copyOf2) B.pre
  have htb := fun w (h : w ∈ TBL) => hts w (List.mem_cons_of_mem _ h)
  have hown : s.vm.findClass R_AR = some m.cls := findClass_of_methodNamed B.named
  have hlocks := B.notSynchronized
  subst hsz
  have hD := hD0.self (sz := s.heap.size)
  generalize hAe : va_A ([(ed, .inl (cO, 15, .inr (.inr (.inr (.inr f)))))] ++ fz) s.heap.size = A at hD hE ⊢
  have hA : ∀ q : Nat, s.heap.size ≤ q → A q := fun q h => by rw [← hAe]; exact Or.inr h
  have hS : va_S A s.heap s.heap [] := va_S.rf
  have hP : va_P (dC, dI) vwCl ([(ed, .inl (cO, 15, .inr (.inr (.inr (.inr f)))))] ++ fz) s.heap := hP
  have hl := lv_entry ([.ref ed, .int 22]) (n := 2) (Nat.le_of_ble_eq_true rfl)
  rw [lg_entry_eq]
  generalize (lg_sl ([.ref ed, .int 22]) ++ List.replicate (2 - (lg_sl ([.ref ed, .int 22])).length) Slot.unset).toArray = ls at hl ⊢
  have hl : lv_has ls 2 [(0, .ref ed), (1, .int 22)] := hl
  refine lv_aload_n hx hb d_AR_copyOf2_0 rfl (lv_at hl 0 rfl) ?_
  refine lv_iload_n hx hb d_AR_copyOf2_1 rfl (lv_at hl 1 rfl) ?_
  refine lv_aload_n hx hb d_AR_copyOf2_2 rfl (lv_at hl 0 rfl) ?_
  refine va_getC (C := "[Ljava/lang/Object;") hx hb (hml.trans hl.1.symm) hown (htb _ m_542) (va_Nw.use rfl (nw_18 hE)) (htb _ m_1610) (htb _ m_543) (htb _ m_561) hE.mirror (zz_arrO hK hP 0 0 rfl rfl) (Nat.le_of_ble_eq_true rfl) (Nat.le_of_ble_eq_true rfl) d_AR_copyOf2_3 ?_
  have hPc := zz_pickP (pre := [(ed, .inl (cO, 15, .inr (.inr (.inr (.inr f)))))]) (fz := fz) (wc := [(ed, .inl (cO, 15, .inr (.inr (.inr (.inr f)))))]) hP [0] rfl
  have hDc := zz_pickD (pre := [(ed, .inl (cO, 15, .inr (.inr (.inr (.inr f)))))]) (fz := fz) (wc := [(ed, .inl (cO, 15, .inr (.inr (.inr (.inr f)))))]) hD [0] (by decide) rfl
  have hFc := zz_free (pre := [(ed, .inl (cO, 15, .inr (.inr (.inr (.inr f)))))]) (fz := fz) (wc := [(ed, .inl (cO, 15, .inr (.inr (.inr (.inr f)))))]) hD hS hA [0] rfl
  have hKc := hK.sub (tys' := [(cO, .object "java/lang/Object")]) [0] rfl
  refine va_callr (va_runS (As := [.ref ed, .int 22, .ref (aK 100)]) (rest := []) ⟨hx, hb, hml, hown, htb⟩ (k_AR_copyOf3_15 l dC dI _ ed cO f ci em aK aV fz hci hel) (va_cwS 3 htb (g_S (fun _ h => h) m_564 m_562 m_563 m_14) rfl rfl rfl (by decide +kernel) ⟨Nat.le_of_ble_eq_true rfl, Nat.le_of_ble_eq_true rfl⟩) ⟨fun a U g mk q => by obtain ⟨q0, q1, qP, qK, qD, z0⟩ := q; exact ⟨q0, q1, qP, va_K.moved (u := U) (U := U.calling g mk a) (Vm.Alike.refl U.vm) qK, qD, EX.same (U := U) (U' := U.calling g mk a) rfl z0⟩, fun U hU hW => ⟨rfl, by rw [hU], by rw [hU]; exact hPc, va_K.moved hW.alike hKc, hDc.weaken (fun _ _ _ _ => trivial), by rw [hU]; exact EX.warm hW ((hE.kept (fun a h1 h2 => hS.2.1 a h1 h2)).narrow hFc)⟩⟩ rfl rfl hl.1 rfl (lv_room (Nat.le_of_ble_eq_true rfl)) d_AR_copyOf2_6 ⟨Nat.le_of_ble_eq_true rfl, Nat.le_of_ble_eq_true rfl⟩) hS (fun q _ h => hFc q h) hFc (fun u1 ra4 t H1 locs ht hvm hw3 hB hz1 hk1 hS => ?_)
  obtain ⟨hP1, hK1, hD1⟩ := hB
  rw [ht] at hP1
  have hK1 := va_K.moved hvm.symm hK1
  have hw3 : True := hw3
  obtain ⟨hP, hD⟩ := zz_join (pre := [(ed, .inl (cO, 15, .inr (.inr (.inr (.inr f)))))]) (fz := fz) (wc := [(ed, .inl (cO, 15, .inr (.inr (.inr (.inr f)))))]) (wr := []) (w1 := ([(ed, .inl (cO, 15, .inr (.inr (.inr (.inr f))))), (ra4, .inl (cO, 22, .inr (.inr (.inr (.inr (va_cpy f (fun _ => none) 0 0 15))))))] ++ fz)) hP hD [0] [] rfl rfl (by decide) (by decide) hk1 hFc hP1 hD1
  have hK := (hK.sub (tys' := []) [] rfl).app hK1
  generalize H1 = H at hP hS ⊢
  have hP : va_P (dC, dI) vwCl ([(ed, .inl (cO, 15, .inr (.inr (.inr (.inr f))))), (ra4, .inl (cO, 22, .inr (.inr (.inr (.inr (va_cpy f (fun _ => none) 0 0 15))))))] ++ fz) H := hP
  have hD : va_D A ([(ed, .inl (cO, 15, .inr (.inr (.inr (.inr f))))), (ra4, .inl (cO, 22, .inr (.inr (.inr (.inr (va_cpy f (fun _ => none) 0 0 15))))))] ++ fz) := hD
  have hK : va_K (dC, dI) vwCl [(cO, .object "java/lang/Object")] s := hK
  refine W.widen (k := 1) (n := 22) (Nat.le_of_ble_eq_true rfl) (Nat.le_of_ble_eq_true rfl) ?_
  have hP9 := zz_pickP (pre := [(ed, .inl (cO, 15, .inr (.inr (.inr (.inr f))))), (ra4, .inl (cO, 22, .inr (.inr (.inr (.inr (va_cpy f (fun _ => none) 0 0 15))))))]) (fz := fz) (wc := [(ed, .inl (cO, 15, .inr (.inr (.inr (.inr f))))), (ra4, .inl (cO, 22, .inr (.inr (.inr (.inr (va_cpy f (fun _ => none) 0 0 15))))))]) hP [0, 1] rfl
  have hD9 := zz_pickD (pre := [(ed, .inl (cO, 15, .inr (.inr (.inr (.inr f))))), (ra4, .inl (cO, 22, .inr (.inr (.inr (.inr (va_cpy f (fun _ => none) 0 0 15))))))]) (fz := fz) (wc := [(ed, .inl (cO, 15, .inr (.inr (.inr (.inr f))))), (ra4, .inl (cO, 22, .inr (.inr (.inr (.inr (va_cpy f (fun _ => none) 0 0 15))))))]) hD [0, 1] (by decide) rfl
  have hK9 := hK.sub (tys' := [(cO, .object "java/lang/Object")]) [0] rfl
  refine W.widen (k := 1) (n := 22) (Nat.le_of_ble_eq_true rfl) (Nat.le_of_ble_eq_true rfl) ?_
  exact W.aret (v := .ref ra4) hx hb hr (Or.inr ⟨_, rfl⟩) (Or.inr ⟨_, rfl⟩) (fun t ht hW => ⟨⟨(), ra4, rfl, trivial, ⟨by rw [ht]; exact hP9, va_K.moved hW.alike hK9, hD9⟩⟩, hS.F ht⟩) hS.2.2 d_AR_copyOf2_9
set_option maxHeartbeats 1000000 in
set_option maxRecDepth 100000 in
/-- Arrays.copyOf of 22 elements to 33 -/
theorem k_AR_copyOf3_22 (l : Launch) (dC : Nat → ClassId) (dI : Nat → Nat → Nat) (sz : Nat) (ed : Nat) (cO : ClassId) (f : Nat → Option Nat) (ci : Nat) (em : Nat) (aK : Nat → Nat) (aV : Nat → Nat) (fz : va_W) (hci : Oci ci) (hel : ∀ i, i < 22 → ∀ y, f i = some y → Vin ci fz y) : Met l y_AR_copyOf3 ws_AR_copyOf3 ({ frames := 1, cells := 1, slots := 33, locals := 40 }) (va_Pc [.ref ed, .int 33, .ref (aK 100)] (fun U => U.heap.size = sz ∧ va_P (dC, dI) vwCl ([(ed, .inl (cO, 22, .inr (.inr (.inr (.inr f)))))] ++ fz) U.heap ∧ va_K (dC, dI) vwCl [(cO, .object "java/lang/Object")] U ∧ va_D (fun _ => True) ([(ed, .inl (cO, 22, .inr (.inr (.inr (.inr f)))))] ++ fz) ∧ EX em aK aV (va_A ([(ed, .inl (cO, 22, .inr (.inr (.inr (.inr f)))))] ++ fz) sz) U U.heap)) (va_Qr (fun (u : Unit) => True) (fun u ra t => va_P (dC, dI) vwCl ([(ed, .inl (cO, 22, .inr (.inr (.inr (.inr f))))), (ra, .inl (cO, 33, .inr (.inr (.inr (.inr (va_cpy f (fun _ => none) 0 0 22))))))] ++ fz) t.heap ∧ va_K (dC, dI) vwCl [(cO, .object "java/lang/Object")] t ∧ va_D (va_A ([(ed, .inl (cO, 22, .inr (.inr (.inr (.inr f)))))] ++ fz) sz) ([(ed, .inl (cO, 22, .inr (.inr (.inr (.inr f))))), (ra, .inl (cO, 33, .inr (.inr (.inr (.inr (va_cpy f (fun _ => none) 0 0 22))))))] ++ fz)) (va_A ([(ed, .inl (cO, 22, .inr (.inr (.inr (.inr f)))))] ++ fz) sz)) 1 33 (va_A ([(ed, .inl (cO, 22, .inr (.inr (.inr (.inr f)))))] ++ fz) sz) := by
  refine Met.ofW (cc := c_AR_copyOf3) (maxL := 4) (ret := (some (.array (.object "java/lang/Object")))) (by decide) rfl ?_
  intro p e s m args below meth c s₁ B hml hv
  obtain ⟨rfl, hsz, hP, hK, hD0, hE⟩ := hv
  have hx := B.exec
  have hb := B.bytes
  have hr := B.returns
  have hts := atoms_spec (ws := ws_AR_copyOf3) B.pre
  have htb := fun w (h : w ∈ TBL) => hts w (List.mem_cons_of_mem _ h)
  have hown : s.vm.findClass R_AR = some m.cls := findClass_of_methodNamed B.named
  have hlocks := B.notSynchronized
  subst hsz
  have hD := hD0.self (sz := s.heap.size)
  generalize hAe : va_A ([(ed, .inl (cO, 22, .inr (.inr (.inr (.inr f)))))] ++ fz) s.heap.size = A at hD hE ⊢
  have hA : ∀ q : Nat, s.heap.size ≤ q → A q := fun q h => by rw [← hAe]; exact Or.inr h
  have hS : va_S A s.heap s.heap [] := va_S.rf
  have hP : va_P (dC, dI) vwCl ([(ed, .inl (cO, 22, .inr (.inr (.inr (.inr f)))))] ++ fz) s.heap := hP
  have hl := lv_entry ([.ref ed, .int 33, .ref (aK 100)]) (n := 4) (Nat.le_of_ble_eq_true rfl)
  rw [lg_entry_eq]
  generalize (lg_sl ([.ref ed, .int 33, .ref (aK 100)]) ++ List.replicate (4 - (lg_sl ([.ref ed, .int 33, .ref (aK 100)])).length) Slot.unset).toArray = ls at hl ⊢
  have hl : lv_has ls 4 [(0, .ref ed), (1, .int 33), (2, .ref (aK 100))] := hl
  refine lv_aload_n hx hb d_AR_copyOf3_0 rfl (lv_at hl 2 rfl) ?_
  refine va_ldcM hx hb hown (htb _ m_565) hE.mirror d_AR_copyOf3_1 ?_
  refine lv_acmp_ne (rx := some (aK 100)) (ry := some (aK 100)) (tgt := 13) hx hb d_AR_copyOf3_3 rfl (fun h9 => absurd rfl h9) (fun _ => ?_)
  refine lv_iload_n hx hb d_AR_copyOf3_6 rfl (lv_at hl 1 rfl) ?_
  refine va_newq (N' := 33) hx hb hown (htb _ m_567) hE.overO hK hP hD hS hA (by decide) (by decide) (by decide) (Nat.le_of_ble_eq_true rfl) (Nat.le_of_ble_eq_true rfl) d_AR_copyOf3_7 (fun eq cN H hK hP hD hS => ?_)
  have hP := zz_rotP (pre := [(ed, .inl (cO, 22, .inr (.inr (.inr (.inr f)))))]) (fz := fz) hP
  have hD := zz_rotD (pre := [(ed, .inl (cO, 22, .inr (.inr (.inr (.inr f)))))]) (fz := fz) hD
  have hK : va_K (dC, dI) vwCl [(cO, .object "java/lang/Object"), (cN, .object "java/lang/Object")] s := hK
  have hP : va_P (dC, dI) vwCl ([(ed, .inl (cO, 22, .inr (.inr (.inr (.inr f))))), (eq, .inl (cN, 33, .inr (.inr (.inr (.inr (fun _ => none))))))] ++ fz) H := hP
  have hD : va_D A ([(ed, .inl (cO, 22, .inr (.inr (.inr (.inr f))))), (eq, .inl (cN, 33, .inr (.inr (.inr (.inr (fun _ => none))))))] ++ fz) := hD
  refine W.widen (k := 1) (n := 33) (Nat.le_of_ble_eq_true rfl) (Nat.le_of_ble_eq_true rfl) ?_
  obtain rfl : cO = cN := zz_ty hK 0 1 rfl rfl
  have hK := hK.sub (tys' := [(cO, .object "java/lang/Object")]) [0] rfl
  have hP : va_P (dC, dI) vwCl ([(ed, .inl (cO, 22, .inr (.inr (.inr (.inr f))))), (eq, .inl (cO, 33, .inr (.inr (.inr (.inr (fun _ => none))))))] ++ fz) H := hP
  have hD : va_D A ([(ed, .inl (cO, 22, .inr (.inr (.inr (.inr f))))), (eq, .inl (cO, 33, .inr (.inr (.inr (.inr (fun _ => none))))))] ++ fz) := hD
  refine lv_goto (tgt := 24) hx hb d_AR_copyOf3_10 rfl ?_
  refine lv_astore_n hx hb d_AR_copyOf3_24 rfl hl (by decide) rfl (fun ls hl => ?_)
  have hl : lv_has ls 4 [(3, .ref eq), (0, .ref ed), (1, .int 33), (2, .ref (aK 100))] := hl
  refine lv_aload_n hx hb d_AR_copyOf3_25 rfl (lv_at hl 1 rfl) ?_
  refine lv_iconst (v := 0) hx hb d_AR_copyOf3_26 (by decide) ?_
  refine lv_aload_n hx hb d_AR_copyOf3_27 rfl (lv_at hl 0 rfl) ?_
  refine lv_iconst (v := 0) hx hb d_AR_copyOf3_28 (by decide) ?_
  refine lv_aload_n hx hb d_AR_copyOf3_29 rfl (lv_at hl 1 rfl) ?_
  refine va_alen (v := 22) hx hb hK hP 0 0 rfl rfl rfl d_AR_copyOf3_30 ?_
  refine lv_iload_n hx hb d_AR_copyOf3_31 rfl (lv_at hl 2 rfl) ?_
  refine va_mmin hx hb (hml.trans hl.1.symm) hown (htb _ m_229) (htb _ m_230) (htb _ m_13) (htb _ m_231) (Nat.le_of_ble_eq_true rfl) (Nat.le_of_ble_eq_true rfl) (Nat.le_of_ble_eq_true rfl) (Nat.le_of_ble_eq_true rfl) d_AR_copyOf3_32 ?_
  refine W.eq (congrArg (fun z => F0 m 35 ls (.int z :: [.int 0, .ref eq, .int 0, .ref ed])) (by decide : (if (33 : Int32) < 22 then 33 else (22 : Int32)) = 22)) ?_
  refine va_copyM hx hb (hml.trans hl.1.symm) hown (htb _ m_232) (htb _ m_234) (htb _ m_233) (htb _ m_15) hK hP hD hS 0 1 0 0 rfl rfl rfl rfl (by decide) (by decide) (by decide) (by decide) (by decide) (fun i hi y hy => zz_any hE hci hK hP ((hel i hi y (by rw [← hy]; simp)).app _)) (Nat.le_of_ble_eq_true rfl) (by decide) d_AR_copyOf3_35 (fun H locs hP hD hS => ?_)
  rw [(rfl : va_cpy f (fun _ => none) (0 : Int32).toNatClampNeg (0 : Int32).toNatClampNeg (22 : Int32).toNatClampNeg = (va_cpy f (fun _ => none) 0 0 22))] at hP hD
  have hP : va_P (dC, dI) vwCl ([(ed, .inl (cO, 22, .inr (.inr (.inr (.inr f))))), (eq, .inl (cO, 33, .inr (.inr (.inr (.inr (va_cpy f (fun _ => none) 0 0 22))))))] ++ fz) H := hP
  have hD : va_D A ([(ed, .inl (cO, 22, .inr (.inr (.inr (.inr f))))), (eq, .inl (cO, 33, .inr (.inr (.inr (.inr (va_cpy f (fun _ => none) 0 0 22))))))] ++ fz) := hD
  refine lv_aload_n hx hb d_AR_copyOf3_38 rfl (lv_at hl 0 rfl) ?_
  have hP9 := zz_pickP (pre := [(ed, .inl (cO, 22, .inr (.inr (.inr (.inr f))))), (eq, .inl (cO, 33, .inr (.inr (.inr (.inr (va_cpy f (fun _ => none) 0 0 22))))))]) (fz := fz) (wc := [(ed, .inl (cO, 22, .inr (.inr (.inr (.inr f))))), (eq, .inl (cO, 33, .inr (.inr (.inr (.inr (va_cpy f (fun _ => none) 0 0 22))))))]) hP [0, 1] rfl
  have hD9 := zz_pickD (pre := [(ed, .inl (cO, 22, .inr (.inr (.inr (.inr f))))), (eq, .inl (cO, 33, .inr (.inr (.inr (.inr (va_cpy f (fun _ => none) 0 0 22))))))]) (fz := fz) (wc := [(ed, .inl (cO, 22, .inr (.inr (.inr (.inr f))))), (eq, .inl (cO, 33, .inr (.inr (.inr (.inr (va_cpy f (fun _ => none) 0 0 22))))))]) hD [0, 1] (by decide) rfl
  have hK9 := hK.sub (tys' := [(cO, .object "java/lang/Object")]) [0] rfl
  refine W.widen (k := 1) (n := 33) (Nat.le_of_ble_eq_true rfl) (Nat.le_of_ble_eq_true rfl) ?_
  exact W.aret (v := .ref eq) hx hb hr (Or.inr ⟨_, rfl⟩) (Or.inr ⟨_, rfl⟩) (fun t ht hW => ⟨⟨(), eq, rfl, trivial, ⟨by rw [ht]; exact hP9, va_K.moved hW.alike hK9, hD9⟩⟩, hS.F ht⟩) hS.2.2 d_AR_copyOf3_39
set_option maxHeartbeats 1000000 in
set_option maxRecDepth 100000 in
/-- Arrays.copyOf of 22 elements to 33 -/
theorem k_AR_copyOf2_22 (l : Launch) (dC : Nat → ClassId) (dI : Nat → Nat → Nat) (sz : Nat) (ed : Nat) (cO : ClassId) (f : Nat → Option Nat) (ci : Nat) (em : Nat) (aK : Nat → Nat) (aV : Nat → Nat) (fz : va_W) (hci : Oci ci) (hel : ∀ i, i < 22 → ∀ y, f i = some y → Vin ci fz y) : Met l y_AR_copyOf2 ws_AR_copyOf2 ({ frames := 2, cells := 1, slots := 33, locals := 63 }) (va_Pc [.ref ed, .int 33] (fun U => U.heap.size = sz ∧ va_P (dC, dI) vwCl ([(ed, .inl (cO, 22, .inr (.inr (.inr (.inr f)))))] ++ fz) U.heap ∧ va_K (dC, dI) vwCl [(cO, .object "java/lang/Object")] U ∧ va_D (fun _ => True) ([(ed, .inl (cO, 22, .inr (.inr (.inr (.inr f)))))] ++ fz) ∧ EX em aK aV (va_A ([(ed, .inl (cO, 22, .inr (.inr (.inr (.inr f)))))] ++ fz) sz) U U.heap)) (va_Qr (fun (u : Unit) => True) (fun u ra t => va_P (dC, dI) vwCl ([(ed, .inl (cO, 22, .inr (.inr (.inr (.inr f))))), (ra, .inl (cO, 33, .inr (.inr (.inr (.inr (va_cpy f (fun _ => none) 0 0 22))))))] ++ fz) t.heap ∧ va_K (dC, dI) vwCl [(cO, .object "java/lang/Object")] t ∧ va_D (va_A ([(ed, .inl (cO, 22, .inr (.inr (.inr (.inr f)))))] ++ fz) sz) ([(ed, .inl (cO, 22, .inr (.inr (.inr (.inr f))))), (ra, .inl (cO, 33, .inr (.inr (.inr (.inr (va_cpy f (fun _ => none) 0 0 22))))))] ++ fz)) (va_A ([(ed, .inl (cO, 22, .inr (.inr (.inr (.inr f)))))] ++ fz) sz)) 1 33 (va_A ([(ed, .inl (cO, 22, .inr (.inr (.inr (.inr f)))))] ++ fz) sz) := by
  refine Met.ofW (cc := c_AR_copyOf2) (maxL := 2) (ret := (some (.array (.object "java/lang/Object")))) (by decide) rfl ?_
  intro p e s m args below meth c s₁ B hml hv
  obtain ⟨rfl, hsz, hP, hK, hD0, hE⟩ := hv
  have hx := B.exec
  have hb := B.bytes
  have hr := B.returns
  have hts := atoms_spec (ws := ws_AR_copyOf2) B.pre
  have htb := fun w (h : w ∈ TBL) => hts w (List.mem_cons_of_mem _ h)
  have hown : s.vm.findClass R_AR = some m.cls := findClass_of_methodNamed B.named
  have hlocks := B.notSynchronized
  subst hsz
  have hD := hD0.self (sz := s.heap.size)
  generalize hAe : va_A ([(ed, .inl (cO, 22, .inr (.inr (.inr (.inr f)))))] ++ fz) s.heap.size = A at hD hE ⊢
  have hA : ∀ q : Nat, s.heap.size ≤ q → A q := fun q h => by rw [← hAe]; exact Or.inr h
  have hS : va_S A s.heap s.heap [] := va_S.rf
  have hP : va_P (dC, dI) vwCl ([(ed, .inl (cO, 22, .inr (.inr (.inr (.inr f)))))] ++ fz) s.heap := hP
  have hl := lv_entry ([.ref ed, .int 33]) (n := 2) (Nat.le_of_ble_eq_true rfl)
  rw [lg_entry_eq]
  generalize (lg_sl ([.ref ed, .int 33]) ++ List.replicate (2 - (lg_sl ([.ref ed, .int 33])).length) Slot.unset).toArray = ls at hl ⊢
  have hl : lv_has ls 2 [(0, .ref ed), (1, .int 33)] := hl
  refine lv_aload_n hx hb d_AR_copyOf2_0 rfl (lv_at hl 0 rfl) ?_
  refine lv_iload_n hx hb d_AR_copyOf2_1 rfl (lv_at hl 1 rfl) ?_
  refine lv_aload_n hx hb d_AR_copyOf2_2 rfl (lv_at hl 0 rfl) ?_
  refine va_getC (C := "[Ljava/lang/Object;") hx hb (hml.trans hl.1.symm) hown (htb _ m_542) (va_Nw.use rfl (nw_18 hE)) (htb _ m_1610) (htb _ m_543) (htb _ m_561) hE.mirror (zz_arrO hK hP 0 0 rfl rfl) (Nat.le_of_ble_eq_true rfl) (Nat.le_of_ble_eq_true rfl) d_AR_copyOf2_3 ?_
  have hPc := zz_pickP (pre := [(ed, .inl (cO, 22, .inr (.inr (.inr (.inr f)))))]) (fz := fz) (wc := [(ed, .inl (cO, 22, .inr (.inr (.inr (.inr f)))))]) hP [0] rfl
  have hDc := zz_pickD (pre := [(ed, .inl (cO, 22, .inr (.inr (.inr (.inr f)))))]) (fz := fz) (wc := [(ed, .inl (cO, 22, .inr (.inr (.inr (.inr f)))))]) hD [0] (by decide) rfl
  have hFc := zz_free (pre := [(ed, .inl (cO, 22, .inr (.inr (.inr (.inr f)))))]) (fz := fz) (wc := [(ed, .inl (cO, 22, .inr (.inr (.inr (.inr f)))))]) hD hS hA [0] rfl
  have hKc := hK.sub (tys' := [(cO, .object "java/lang/Object")]) [0] rfl
  refine va_callr (va_runS (As := [.ref ed, .int 33, .ref (aK 100)]) (rest := []) ⟨hx, hb, hml, hown, htb⟩ (k_AR_copyOf3_22 l dC dI _ ed cO f ci em aK aV fz hci hel) (va_cwS 3 htb (g_S (fun _ h => h) m_564 m_562 m_563 m_14) rfl rfl rfl (by decide +kernel) ⟨Nat.le_of_ble_eq_true rfl, Nat.le_of_ble_eq_true rfl⟩) ⟨fun a U g mk q => by obtain ⟨q0, q1, qP, qK, qD, z0⟩ := q; exact ⟨q0, q1, qP, va_K.moved (u := U) (U := U.calling g mk a) (Vm.Alike.refl U.vm) qK, qD, EX.same (U := U) (U' := U.calling g mk a) rfl z0⟩, fun U hU hW => ⟨rfl, by rw [hU], by rw [hU]; exact hPc, va_K.moved hW.alike hKc, hDc.weaken (fun _ _ _ _ => trivial), by rw [hU]; exact EX.warm hW ((hE.kept (fun a h1 h2 => hS.2.1 a h1 h2)).narrow hFc)⟩⟩ rfl rfl hl.1 rfl (lv_room (Nat.le_of_ble_eq_true rfl)) d_AR_copyOf2_6 ⟨Nat.le_of_ble_eq_true rfl, Nat.le_of_ble_eq_true rfl⟩) hS (fun q _ h => hFc q h) hFc (fun u1 ra4 t H1 locs ht hvm hw3 hB hz1 hk1 hS => ?_)
  obtain ⟨hP1, hK1, hD1⟩ := hB
  rw [ht] at hP1
  have hK1 := va_K.moved hvm.symm hK1
  have hw3 : True := hw3
  obtain ⟨hP, hD⟩ := zz_join (pre := [(ed, .inl (cO, 22, .inr (.inr (.inr (.inr f)))))]) (fz := fz) (wc := [(ed, .inl (cO, 22, .inr (.inr (.inr (.inr f)))))]) (wr := []) (w1 := ([(ed, .inl (cO, 22, .inr (.inr (.inr (.inr f))))), (ra4, .inl (cO, 33, .inr (.inr (.inr (.inr (va_cpy f (fun _ => none) 0 0 22))))))] ++ fz)) hP hD [0] [] rfl rfl (by decide) (by decide) hk1 hFc hP1 hD1
  have hK := (hK.sub (tys' := []) [] rfl).app hK1
  generalize H1 = H at hP hS ⊢
  have hP : va_P (dC, dI) vwCl ([(ed, .inl (cO, 22, .inr (.inr (.inr (.inr f))))), (ra4, .inl (cO, 33, .inr (.inr (.inr (.inr (va_cpy f (fun _ => none) 0 0 22))))))] ++ fz) H := hP
  have hD : va_D A ([(ed, .inl (cO, 22, .inr (.inr (.inr (.inr f))))), (ra4, .inl (cO, 33, .inr (.inr (.inr (.inr (va_cpy f (fun _ => none) 0 0 22))))))] ++ fz) := hD
  have hK : va_K (dC, dI) vwCl [(cO, .object "java/lang/Object")] s := hK
  refine W.widen (k := 1) (n := 33) (Nat.le_of_ble_eq_true rfl) (Nat.le_of_ble_eq_true rfl) ?_
  have hP9 := zz_pickP (pre := [(ed, .inl (cO, 22, .inr (.inr (.inr (.inr f))))), (ra4, .inl (cO, 33, .inr (.inr (.inr (.inr (va_cpy f (fun _ => none) 0 0 22))))))]) (fz := fz) (wc := [(ed, .inl (cO, 22, .inr (.inr (.inr (.inr f))))), (ra4, .inl (cO, 33, .inr (.inr (.inr (.inr (va_cpy f (fun _ => none) 0 0 22))))))]) hP [0, 1] rfl
  have hD9 := zz_pickD (pre := [(ed, .inl (cO, 22, .inr (.inr (.inr (.inr f))))), (ra4, .inl (cO, 33, .inr (.inr (.inr (.inr (va_cpy f (fun _ => none) 0 0 22))))))]) (fz := fz) (wc := [(ed, .inl (cO, 22, .inr (.inr (.inr (.inr f))))), (ra4, .inl (cO, 33, .inr (.inr (.inr (.inr (va_cpy f (fun _ => none) 0 0 22))))))]) hD [0, 1] (by decide) rfl
  have hK9 := hK.sub (tys' := [(cO, .object "java/lang/Object")]) [0] rfl
  refine W.widen (k := 1) (n := 33) (Nat.le_of_ble_eq_true rfl) (Nat.le_of_ble_eq_true rfl) ?_
  exact W.aret (v := .ref ra4) hx hb hr (Or.inr ⟨_, rfl⟩) (Or.inr ⟨_, rfl⟩) (fun t ht hW => ⟨⟨(), ra4, rfl, trivial, ⟨by rw [ht]; exact hP9, va_K.moved hW.alike hK9, hD9⟩⟩, hS.F ht⟩) hS.2.2 d_AR_copyOf2_9
set_option maxHeartbeats 1000000 in
set_option maxRecDepth 100000 in
/-- Arrays.copyOf of 33 elements to 49 -/
theorem k_AR_copyOf3_33 (l : Launch) (dC : Nat → ClassId) (dI : Nat → Nat → Nat) (sz : Nat) (ed : Nat) (cO : ClassId) (f : Nat → Option Nat) (ci : Nat) (em : Nat) (aK : Nat → Nat) (aV : Nat → Nat) (fz : va_W) (hci : Oci ci) (hel : ∀ i, i < 33 → ∀ y, f i = some y → Vin ci fz y) : Met l y_AR_copyOf3 ws_AR_copyOf3 ({ frames := 1, cells := 1, slots := 49, locals := 40 }) (va_Pc [.ref ed, .int 49, .ref (aK 100)] (fun U => U.heap.size = sz ∧ va_P (dC, dI) vwCl ([(ed, .inl (cO, 33, .inr (.inr (.inr (.inr f)))))] ++ fz) U.heap ∧ va_K (dC, dI) vwCl [(cO, .object "java/lang/Object")] U ∧ va_D (fun _ => True) ([(ed, .inl (cO, 33, .inr (.inr (.inr (.inr f)))))] ++ fz) ∧ EX em aK aV (va_A ([(ed, .inl (cO, 33, .inr (.inr (.inr (.inr f)))))] ++ fz) sz) U U.heap)) (va_Qr (fun (u : Unit) => True) (fun u ra t => va_P (dC, dI) vwCl ([(ed, .inl (cO, 33, .inr (.inr (.inr (.inr f))))), (ra, .inl (cO, 49, .inr (.inr (.inr (.inr (va_cpy f (fun _ => none) 0 0 33))))))] ++ fz) t.heap ∧ va_K (dC, dI) vwCl [(cO, .object "java/lang/Object")] t ∧ va_D (va_A ([(ed, .inl (cO, 33, .inr (.inr (.inr (.inr f)))))] ++ fz) sz) ([(ed, .inl (cO, 33, .inr (.inr (.inr (.inr f))))), (ra, .inl (cO, 49, .inr (.inr (.inr (.inr (va_cpy f (fun _ => none) 0 0 33))))))] ++ fz)) (va_A ([(ed, .inl (cO, 33, .inr (.inr (.inr (.inr f)))))] ++ fz) sz)) 1 49 (va_A ([(ed, .inl (cO, 33, .inr (.inr (.inr (.inr f)))))] ++ fz) sz) := by
  refine Met.ofW (cc := c_AR_copyOf3) (maxL := 4) (ret := (some (.array (.object "java/lang/Object")))) (by decide) rfl ?_
  intro p e s m args below meth c s₁ B hml hv
  obtain ⟨rfl, hsz, hP, hK, hD0, hE⟩ := hv
  have hx := B.exec
  have hb := B.bytes
  have hr := B.returns
  have hts := atoms_spec (ws := ws_AR_copyOf3) B.pre
  have htb := fun w (h : w ∈ TBL) => hts w (List.mem_cons_of_mem _ h)
  have hown : s.vm.findClass R_AR = some m.cls := findClass_of_methodNamed B.named
  have hlocks := B.notSynchronized
  subst hsz
  have hD := hD0.self (sz := s.heap.size)
  generalize hAe : va_A ([(ed, .inl (cO, 33, .inr (.inr (.inr (.inr f)))))] ++ fz) s.heap.size = A at hD hE ⊢
  have hA : ∀ q : Nat, s.heap.size ≤ q → A q := fun q h => by rw [← hAe]; exact Or.inr h
  have hS : va_S A s.heap s.heap [] := va_S.rf
  have hP : va_P (dC, dI) vwCl ([(ed, .inl (cO, 33, .inr (.inr (.inr (.inr f)))))] ++ fz) s.heap := hP
  have hl := lv_entry ([.ref ed, .int 49, .ref (aK 100)]) (n := 4) (Nat.le_of_ble_eq_true rfl)
  rw [lg_entry_eq]
  generalize (lg_sl ([.ref ed, .int 49, .ref (aK 100)]) ++ List.replicate (4 - (lg_sl ([.ref ed, .int 49, .ref (aK 100)])).length) Slot.unset).toArray = ls at hl ⊢
  have hl : lv_has ls 4 [(0, .ref ed), (1, .int 49), (2, .ref (aK 100))] := hl
  refine lv_aload_n hx hb d_AR_copyOf3_0 rfl (lv_at hl 2 rfl) ?_
  refine va_ldcM hx hb hown (htb _ m_565) hE.mirror d_AR_copyOf3_1 ?_
  refine lv_acmp_ne (rx := some (aK 100)) (ry := some (aK 100)) (tgt := 13) hx hb d_AR_copyOf3_3 rfl (fun h9 => absurd rfl h9) (fun _ => ?_)
  refine lv_iload_n hx hb d_AR_copyOf3_6 rfl (lv_at hl 1 rfl) ?_
  refine va_newq (N' := 49) hx hb hown (htb _ m_567) hE.overO hK hP hD hS hA (by decide) (by decide) (by decide) (Nat.le_of_ble_eq_true rfl) (Nat.le_of_ble_eq_true rfl) d_AR_copyOf3_7 (fun eq cN H hK hP hD hS => ?_)
  have hP := zz_rotP (pre := [(ed, .inl (cO, 33, .inr (.inr (.inr (.inr f)))))]) (fz := fz) hP
  have hD := zz_rotD (pre := [(ed, .inl (cO, 33, .inr (.inr (.inr (.inr f)))))]) (fz := fz) hD
  have hK : va_K (dC, dI) vwCl [(cO, .object "java/lang/Object"), (cN, .object "java/lang/Object")] s := hK
  have hP : va_P (dC, dI) vwCl ([(ed, .inl (cO, 33, .inr (.inr (.inr (.inr f))))), (eq, .inl (cN, 49, .inr (.inr (.inr (.inr (fun _ => none))))))] ++ fz) H := hP
  have hD : va_D A ([(ed, .inl (cO, 33, .inr (.inr (.inr (.inr f))))), (eq, .inl (cN, 49, .inr (.inr (.inr (.inr (fun _ => none))))))] ++ fz) := hD
  refine W.widen (k := 1) (n := 49) (Nat.le_of_ble_eq_true rfl) (Nat.le_of_ble_eq_true rfl) ?_
  obtain rfl : cO = cN := zz_ty hK 0 1 rfl rfl
  have hK := hK.sub (tys' := [(cO, .object "java/lang/Object")]) [0] rfl
  have hP : va_P (dC, dI) vwCl ([(ed, .inl (cO, 33, .inr (.inr (.inr (.inr f))))), (eq, .inl (cO, 49, .inr (.inr (.inr (.inr (fun _ => none))))))] ++ fz) H := hP
  have hD : va_D A ([(ed, .inl (cO, 33, .inr (.inr (.inr (.inr f))))), (eq, .inl (cO, 49, .inr (.inr (.inr (.inr (fun _ => none))))))] ++ fz) := hD
  refine lv_goto (tgt := 24) hx hb d_AR_copyOf3_10 rfl ?_
  refine lv_astore_n hx hb d_AR_copyOf3_24 rfl hl (by decide) rfl (fun ls hl => ?_)
  have hl : lv_has ls 4 [(3, .ref eq), (0, .ref ed), (1, .int 49), (2, .ref (aK 100))] := hl
  refine lv_aload_n hx hb d_AR_copyOf3_25 rfl (lv_at hl 1 rfl) ?_
  refine lv_iconst (v := 0) hx hb d_AR_copyOf3_26 (by decide) ?_
  refine lv_aload_n hx hb d_AR_copyOf3_27 rfl (lv_at hl 0 rfl) ?_
  refine lv_iconst (v := 0) hx hb d_AR_copyOf3_28 (by decide) ?_
  refine lv_aload_n hx hb d_AR_copyOf3_29 rfl (lv_at hl 1 rfl) ?_
  refine va_alen (v := 33) hx hb hK hP 0 0 rfl rfl rfl d_AR_copyOf3_30 ?_
  refine lv_iload_n hx hb d_AR_copyOf3_31 rfl (lv_at hl 2 rfl) ?_
  refine va_mmin hx hb (hml.trans hl.1.symm) hown (htb _ m_229) (htb _ m_230) (htb _ m_13) (htb _ m_231) (Nat.le_of_ble_eq_true rfl) (Nat.le_of_ble_eq_true rfl) (Nat.le_of_ble_eq_true rfl) (Nat.le_of_ble_eq_true rfl) d_AR_copyOf3_32 ?_
  refine W.eq (congrArg (fun z => F0 m 35 ls (.int z :: [.int 0, .ref eq, .int 0, .ref ed])) (by decide : (if (49 : Int32) < 33 then 49 else (33 : Int32)) = 33)) ?_
  refine va_copyM hx hb (hml.trans hl.1.symm) hown (htb _ m_232) (htb _ m_234) (htb _ m_233) (htb _ m_15) hK hP hD hS 0 1 0 0 rfl rfl rfl rfl (by decide) (by decide) (by decide) (by decide) (by decide) (fun i hi y hy => zz_any hE hci hK hP ((hel i hi y (by rw [← hy]; simp)).app _)) (Nat.le_of_ble_eq_true rfl) (by decide) d_AR_copyOf3_35 (fun H locs hP hD hS => ?_)
  rw [(rfl : va_cpy f (fun _ => none) (0 : Int32).toNatClampNeg (0 : Int32).toNatClampNeg (33 : Int32).toNatClampNeg = (va_cpy f (fun _ => none) 0 0 33))] at hP hD
  have hP : va_P (dC, dI) vwCl ([(ed, .inl (cO, 33, .inr (.inr (.inr (.inr f))))), (eq, .inl (cO, 49, .inr (.inr (.inr (.inr (va_cpy f (fun _ => none) 0 0 33))))))] ++ fz) H := hP
  have hD : va_D A ([(ed, .inl (cO, 33, .inr (.inr (.inr (.inr f))))), (eq, .inl (cO, 49, .inr (.inr (.inr (.inr (va_cpy f (fun _ => none) 0 0 33))))))] ++ fz) := hD
  refine lv_aload_n hx hb d_AR_copyOf3_38 rfl (lv_at hl 0 rfl) ?_
  have hP9 := zz_pickP (pre := [(ed, .inl (cO, 33, .inr (.inr (.inr (.inr f))))), (eq, .inl (cO, 49, .inr (.inr (.inr (.inr (va_cpy f (fun _ => none) 0 0 33))))))]) (fz := fz) (wc := [(ed, .inl (cO, 33, .inr (.inr (.inr (.inr f))))), (eq, .inl (cO, 49, .inr (.inr (.inr (.inr (va_cpy f (fun _ => none) 0 0 33))))))]) hP [0, 1] rfl
  have hD9 := zz_pickD (pre := [(ed, .inl (cO, 33, .inr (.inr (.inr (.inr f))))), (eq, .inl (cO, 49, .inr (.inr (.inr (.inr (va_cpy f (fun _ => none) 0 0 33))))))]) (fz := fz) (wc := [(ed, .inl (cO, 33, .inr (.inr (.inr (.inr f))))), (eq, .inl (cO, 49, .inr (.inr (.inr (.inr (va_cpy f (fun _ => none) 0 0 33))))))]) hD [0, 1] (by decide) rfl
  have hK9 := hK.sub (tys' := [(cO, .object "java/lang/Object")]) [0] rfl
  refine W.widen (k := 1) (n := 49) (Nat.le_of_ble_eq_true rfl) (Nat.le_of_ble_eq_true rfl) ?_
  exact W.aret (v := .ref eq) hx hb hr (Or.inr ⟨_, rfl⟩) (Or.inr ⟨_, rfl⟩) (fun t ht hW => ⟨⟨(), eq, rfl, trivial, ⟨by rw [ht]; exact hP9, va_K.moved hW.alike hK9, hD9⟩⟩, hS.F ht⟩) hS.2.2 d_AR_copyOf3_39
set_option maxHeartbeats 1000000 in
set_option maxRecDepth 100000 in
/-- Arrays.copyOf of 33 elements to 49 -/
theorem k_AR_copyOf2_33 (l : Launch) (dC : Nat → ClassId) (dI : Nat → Nat → Nat) (sz : Nat) (ed : Nat) (cO : ClassId) (f : Nat → Option Nat) (ci : Nat) (em : Nat) (aK : Nat → Nat) (aV : Nat → Nat) (fz : va_W) (hci : Oci ci) (hel : ∀ i, i < 33 → ∀ y, f i = some y → Vin ci fz y) : Met l y_AR_copyOf2 ws_AR_copyOf2 ({ frames := 2, cells := 1, slots := 49, locals := 63 }) (va_Pc [.ref ed, .int 49] (fun U => U.heap.size = sz ∧ va_P (dC, dI) vwCl ([(ed, .inl (cO, 33, .inr (.inr (.inr (.inr f)))))] ++ fz) U.heap ∧ va_K (dC, dI) vwCl [(cO, .object "java/lang/Object")] U ∧ va_D (fun _ => True) ([(ed, .inl (cO, 33, .inr (.inr (.inr (.inr f)))))] ++ fz) ∧ EX em aK aV (va_A ([(ed, .inl (cO, 33, .inr (.inr (.inr (.inr f)))))] ++ fz) sz) U U.heap)) (va_Qr (fun (u : Unit) => True) (fun u ra t => va_P (dC, dI) vwCl ([(ed, .inl (cO, 33, .inr (.inr (.inr (.inr f))))), (ra, .inl (cO, 49, .inr (.inr (.inr (.inr (va_cpy f (fun _ => none) 0 0 33))))))] ++ fz) t.heap ∧ va_K (dC, dI) vwCl [(cO, .object "java/lang/Object")] t ∧ va_D (va_A ([(ed, .inl (cO, 33, .inr (.inr (.inr (.inr f)))))] ++ fz) sz) ([(ed, .inl (cO, 33, .inr (.inr (.inr (.inr f))))), (ra, .inl (cO, 49, .inr (.inr (.inr (.inr (va_cpy f (fun _ => none) 0 0 33))))))] ++ fz)) (va_A ([(ed, .inl (cO, 33, .inr (.inr (.inr (.inr f)))))] ++ fz) sz)) 1 49 (va_A ([(ed, .inl (cO, 33, .inr (.inr (.inr (.inr f)))))] ++ fz) sz) := by
  refine Met.ofW (cc := c_AR_copyOf2) (maxL := 2) (ret := (some (.array (.object "java/lang/Object")))) (by decide) rfl ?_
  intro p e s m args below meth c s₁ B hml hv
  obtain ⟨rfl, hsz, hP, hK, hD0, hE⟩ := hv
  have hx := B.exec
  have hb := B.bytes
  have hr := B.returns
  have hts := atoms_spec (ws := ws_AR_copyOf2) B.pre
  have htb := fun w (h : w ∈ TBL) => hts w (List.mem_cons_of_mem _ h)
  have hown : s.vm.findClass R_AR = some m.cls := findClass_of_methodNamed B.named
  have hlocks := B.notSynchronized
  subst hsz
  have hD := hD0.self (sz := s.heap.size)
  generalize hAe : va_A ([(ed, .inl (cO, 33, .inr (.inr (.inr (.inr f)))))] ++ fz) s.heap.size = A at hD hE ⊢
  have hA : ∀ q : Nat, s.heap.size ≤ q → A q := fun q h => by rw [← hAe]; exact Or.inr h
  have hS : va_S A s.heap s.heap [] := va_S.rf
  have hP : va_P (dC, dI) vwCl ([(ed, .inl (cO, 33, .inr (.inr (.inr (.inr f)))))] ++ fz) s.heap := hP
  have hl := lv_entry ([.ref ed, .int 49]) (n := 2) (Nat.le_of_ble_eq_true rfl)
  rw [lg_entry_eq]
  generalize (lg_sl ([.ref ed, .int 49]) ++ List.replicate (2 - (lg_sl ([.ref ed, .int 49])).length) Slot.unset).toArray = ls at hl ⊢
  have hl : lv_has ls 2 [(0, .ref ed), (1, .int 49)] := hl
  refine lv_aload_n hx hb d_AR_copyOf2_0 rfl (lv_at hl 0 rfl) ?_
  refine lv_iload_n hx hb d_AR_copyOf2_1 rfl (lv_at hl 1 rfl) ?_
  refine lv_aload_n hx hb d_AR_copyOf2_2 rfl (lv_at hl 0 rfl) ?_
  refine va_getC (C := "[Ljava/lang/Object;") hx hb (hml.trans hl.1.symm) hown (htb _ m_542) (va_Nw.use rfl (nw_18 hE)) (htb _ m_1610) (htb _ m_543) (htb _ m_561) hE.mirror (zz_arrO hK hP 0 0 rfl rfl) (Nat.le_of_ble_eq_true rfl) (Nat.le_of_ble_eq_true rfl) d_AR_copyOf2_3 ?_
  have hPc := zz_pickP (pre := [(ed, .inl (cO, 33, .inr (.inr (.inr (.inr f)))))]) (fz := fz) (wc := [(ed, .inl (cO, 33, .inr (.inr (.inr (.inr f)))))]) hP [0] rfl
  have hDc := zz_pickD (pre := [(ed, .inl (cO, 33, .inr (.inr (.inr (.inr f)))))]) (fz := fz) (wc := [(ed, .inl (cO, 33, .inr (.inr (.inr (.inr f)))))]) hD [0] (by decide) rfl
  have hFc := zz_free (pre := [(ed, .inl (cO, 33, .inr (.inr (.inr (.inr f)))))]) (fz := fz) (wc := [(ed, .inl (cO, 33, .inr (.inr (.inr (.inr f)))))]) hD hS hA [0] rfl
  have hKc := hK.sub (tys' := [(cO, .object "java/lang/Object")]) [0] rfl
  refine va_callr (va_runS (As := [.ref ed, .int 49, .ref (aK 100)]) (rest := []) ⟨hx, hb, hml, hown, htb⟩ (k_AR_copyOf3_33 l dC dI _ ed cO f ci em aK aV fz hci hel) (va_cwS 3 htb (g_S (fun _ h => h) m_564 m_562 m_563 m_14) rfl rfl rfl (by decide +kernel) ⟨Nat.le_of_ble_eq_true rfl, Nat.le_of_ble_eq_true rfl⟩) ⟨fun a U g mk q => by obtain ⟨q0, q1, qP, qK, qD, z0⟩ := q; exact ⟨q0, q1, qP, va_K.moved (u := U) (U := U.calling g mk a) (Vm.Alike.refl U.vm) qK, qD, EX.same (U := U) (U' := U.calling g mk a) rfl z0⟩, fun U hU hW => ⟨rfl, by rw [hU], by rw [hU]; exact hPc, va_K.moved hW.alike hKc, hDc.weaken (fun _ _ _ _ => trivial), by rw [hU]; exact EX.warm hW ((hE.kept (fun a h1 h2 => hS.2.1 a h1 h2)).narrow hFc)⟩⟩ rfl rfl hl.1 rfl (lv_room (Nat.le_of_ble_eq_true rfl)) d_AR_copyOf2_6 ⟨Nat.le_of_ble_eq_true rfl, Nat.le_of_ble_eq_true rfl⟩) hS (fun q _ h => hFc q h) hFc (fun u1 ra4 t H1 locs ht hvm hw3 hB hz1 hk1 hS => ?_)
  obtain ⟨hP1, hK1, hD1⟩ := hB
  rw [ht] at hP1
  have hK1 := va_K.moved hvm.symm hK1
  have hw3 : True := hw3
  obtain ⟨hP, hD⟩ := zz_join (pre := [(ed, .inl (cO, 33, .inr (.inr (.inr (.inr f)))))]) (fz := fz) (wc := [(ed, .inl (cO, 33, .inr (.inr (.inr (.inr f)))))]) (wr := []) (w1 := ([(ed, .inl (cO, 33, .inr (.inr (.inr (.inr f))))), (ra4, .inl (cO, 49, .inr (.inr (.inr (.inr (va_cpy f (fun _ => none) 0 0 33))))))] ++ fz)) hP hD [0] [] rfl rfl (by decide) (by decide) hk1 hFc hP1 hD1
  have hK := (hK.sub (tys' := []) [] rfl).app hK1
  generalize H1 = H at hP hS ⊢
  have hP : va_P (dC, dI) vwCl ([(ed, .inl (cO, 33, .inr (.inr (.inr (.inr f))))), (ra4, .inl (cO, 49, .inr (.inr (.inr (.inr (va_cpy f (fun _ => none) 0 0 33))))))] ++ fz) H := hP
  have hD : va_D A ([(ed, .inl (cO, 33, .inr (.inr (.inr (.inr f))))), (ra4, .inl (cO, 49, .inr (.inr (.inr (.inr (va_cpy f (fun _ => none) 0 0 33))))))] ++ fz) := hD
  have hK : va_K (dC, dI) vwCl [(cO, .object "java/lang/Object")] s := hK
  refine W.widen (k := 1) (n := 49) (Nat.le_of_ble_eq_true rfl) (Nat.le_of_ble_eq_true rfl) ?_
  have hP9 := zz_pickP (pre := [(ed, .inl (cO, 33, .inr (.inr (.inr (.inr f))))), (ra4, .inl (cO, 49, .inr (.inr (.inr (.inr (va_cpy f (fun _ => none) 0 0 33))))))]) (fz := fz) (wc := [(ed, .inl (cO, 33, .inr (.inr (.inr (.inr f))))), (ra4, .inl (cO, 49, .inr (.inr (.inr (.inr (va_cpy f (fun _ => none) 0 0 33))))))]) hP [0, 1] rfl
  have hD9 := zz_pickD (pre := [(ed, .inl (cO, 33, .inr (.inr (.inr (.inr f))))), (ra4, .inl (cO, 49, .inr (.inr (.inr (.inr (va_cpy f (fun _ => none) 0 0 33))))))]) (fz := fz) (wc := [(ed, .inl (cO, 33, .inr (.inr (.inr (.inr f))))), (ra4, .inl (cO, 49, .inr (.inr (.inr (.inr (va_cpy f (fun _ => none) 0 0 33))))))]) hD [0, 1] (by decide) rfl
  have hK9 := hK.sub (tys' := [(cO, .object "java/lang/Object")]) [0] rfl
  refine W.widen (k := 1) (n := 49) (Nat.le_of_ble_eq_true rfl) (Nat.le_of_ble_eq_true rfl) ?_
  exact W.aret (v := .ref ra4) hx hb hr (Or.inr ⟨_, rfl⟩) (Or.inr ⟨_, rfl⟩) (fun t ht hW => ⟨⟨(), ra4, rfl, trivial, ⟨by rw [ht]; exact hP9, va_K.moved hW.alike hK9, hD9⟩⟩, hS.F ht⟩) hS.2.2 d_AR_copyOf2_9
set_option maxHeartbeats 1000000 in
set_option maxRecDepth 100000 in
/-- Arrays.copyOf of 49 elements to 73 -/
theorem k_AR_copyOf3_49 (l : Launch) (dC : Nat → ClassId) (dI : Nat → Nat → Nat) (sz : Nat) (ed : Nat) (cO : ClassId) (f : Nat → Option Nat) (ci : Nat) (em : Nat) (aK : Nat → Nat) (aV : Nat → Nat) (fz : va_W) (hci : Oci ci) (hel : ∀ i, i < 49 → ∀ y, f i = some y → Vin ci fz y) : Met l y_AR_copyOf3 ws_AR_copyOf3 ({ frames := 1, cells := 1, slots := 73, locals := 40 }) (va_Pc [.ref ed, .int 73, .ref (aK 100)] (fun U => U.heap.size = sz ∧ va_P (dC, dI) vwCl ([(ed, .inl (cO, 49, .inr (.inr (.inr (.inr f)))))] ++ fz) U.heap ∧ va_K (dC, dI) vwCl [(cO, .object "java/lang/Object")] U ∧ va_D (fun _ => True) ([(ed, .inl (cO, 49, .inr (.inr (.inr (.inr f)))))] ++ fz) ∧ EX em aK aV (va_A ([(ed, .inl (cO, 49, .inr (.inr (.inr (.inr f)))))] ++ fz) sz) U U.heap)) (va_Qr (fun (u : Unit) => True) (fun u ra t => va_P (dC, dI) vwCl ([(ed, .inl (cO, 49, .inr (.inr (.inr (.inr f))))), (ra, .inl (cO, 73, .inr (.inr (.inr (.inr (va_cpy f (fun _ => none) 0 0 49))))))] ++ fz) t.heap ∧ va_K (dC, dI) vwCl [(cO, .object "java/lang/Object")] t ∧ va_D (va_A ([(ed, .inl (cO, 49, .inr (.inr (.inr (.inr f)))))] ++ fz) sz) ([(ed, .inl (cO, 49, .inr (.inr (.inr (.inr f))))), (ra, .inl (cO, 73, .inr (.inr (.inr (.inr (va_cpy f (fun _ => none) 0 0 49))))))] ++ fz)) (va_A ([(ed, .inl (cO, 49, .inr (.inr (.inr (.inr f)))))] ++ fz) sz)) 1 73 (va_A ([(ed, .inl (cO, 49, .inr (.inr (.inr (.inr f)))))] ++ fz) sz) := by
  refine Met.ofW (cc := c_AR_copyOf3) (maxL := 4) (ret := (some (.array (.object "java/lang/Object")))) (by decide) rfl ?_
  intro p e s m args below meth c s₁ B hml hv
  obtain ⟨rfl, hsz, hP, hK, hD0, hE⟩ := hv
  have hx := B.exec
  have hb := B.bytes
  have hr := B.returns
  have hts := atoms_spec (ws := ws_AR_copyOf3) B.pre
  have htb := fun w (h : w ∈ TBL) => hts w (List.mem_cons_of_mem _ h)
  have hown : s.vm.findClass R_AR = some m.cls := findClass_of_methodNamed B.named
  have hlocks := B.notSynchronized
  subst hsz
  have hD := hD0.self (sz := s.heap.size)
  generalize hAe : va_A ([(ed, .inl (cO, 49, .inr (.inr (.inr (.inr f)))))] ++ fz) s.heap.size = A at hD hE ⊢
  have hA : ∀ q : Nat, s.heap.size ≤ q → A q := fun q h => by rw [← hAe]; exact Or.inr h
  have hS : va_S A s.heap s.heap [] := va_S.rf
  have hP : va_P (dC, dI) vwCl ([(ed, .inl (cO, 49, .inr (.inr (.inr (.inr f)))))] ++ fz) s.heap := hP
  have hl := lv_entry ([.ref ed, .int 73, .ref (aK 100)]) (n := 4) (Nat.le_of_ble_eq_true rfl)
  rw [lg_entry_eq]
  generalize (lg_sl ([.ref ed, .int 73, .ref (aK 100)]) ++ List.replicate (4 - (lg_sl ([.ref ed, .int 73, .ref (aK 100)])).length) Slot.unset).toArray = ls at hl ⊢
  have hl : lv_has ls 4 [(0, .ref ed), (1, .int 73), (2, .ref (aK 100))] := hl
  refine lv_aload_n hx hb d_AR_copyOf3_0 rfl (lv_at hl 2 rfl) ?_
  refine va_ldcM hx hb hown (htb _ m_565) hE.mirror d_AR_copyOf3_1 ?_
  refine lv_acmp_ne (rx := some (aK 100)) (ry := some (aK 100)) (tgt := 13) hx hb d_AR_copyOf3_3 rfl (fun h9 => absurd rfl h9) (fun _ => ?_)
  refine lv_iload_n hx hb d_AR_copyOf3_6 rfl (lv_at hl 1 rfl) ?_
  refine va_newq (N' := 73) hx hb hown (htb _ m_567) hE.overO hK hP hD hS hA (by decide) (by decide) (by decide) (Nat.le_of_ble_eq_true rfl) (Nat.le_of_ble_eq_true rfl) d_AR_copyOf3_7 (fun eq cN H hK hP hD hS => ?_)
  have hP := zz_rotP (pre := [(ed, .inl (cO, 49, .inr (.inr (.inr (.inr f)))))]) (fz := fz) hP
  have hD := zz_rotD (pre := [(ed, .inl (cO, 49, .inr (.inr (.inr (.inr f)))))]) (fz := fz) hD
  have hK : va_K (dC, dI) vwCl [(cO, .object "java/lang/Object"), (cN, .object "java/lang/Object")] s := hK
  have hP : va_P (dC, dI) vwCl ([(ed, .inl (cO, 49, .inr (.inr (.inr (.inr f))))), (eq, .inl (cN, 73, .inr (.inr (.inr (.inr (fun _ => none))))))] ++ fz) H := hP
  have hD : va_D A ([(ed, .inl (cO, 49, .inr (.inr (.inr (.inr f))))), (eq, .inl (cN, 73, .inr (.inr (.inr (.inr (fun _ => none))))))] ++ fz) := hD
  refine W.widen (k := 1) (n := 73) (Nat.le_of_ble_eq_true rfl) (Nat.le_of_ble_eq_true rfl) ?_
  obtain rfl : cO = cN := zz_ty hK 0 1 rfl rfl
  have hK := hK.sub (tys' := [(cO, .object "java/lang/Object")]) [0] rfl
  have hP : va_P (dC, dI) vwCl ([(ed, .inl (cO, 49, .inr (.inr (.inr (.inr f))))), (eq, .inl (cO, 73, .inr (.inr (.inr (.inr (fun _ => none))))))] ++ fz) H := hP
  have hD : va_D A ([(ed, .inl (cO, 49, .inr (.inr (.inr (.inr f))))), (eq, .inl (cO, 73, .inr (.inr (.inr (.inr (fun _ => none))))))] ++ fz) := hD
  refine lv_goto (tgt := 24) hx hb d_AR_copyOf3_10 rfl ?_
  refine lv_astore_n hx hb d_AR_copyOf3_24 rfl hl (by decide) rfl (fun ls hl => ?_)
  have hl : lv_has ls 4 [(3, .ref eq), (0, .ref ed), (1, .int 73), (2, .ref (aK 100))] := hl
  refine lv_aload_n hx hb d_AR_copyOf3_25 rfl (lv_at hl 1 rfl) ?_
  refine lv_iconst (v := 0) hx hb d_AR_copyOf3_26 (by decide) ?_
  refine lv_aload_n hx hb d_AR_copyOf3_27 rfl (lv_at hl 0 rfl) ?_
  refine lv_iconst (v := 0) hx hb d_AR_copyOf3_28 (by decide) ?_
  refine lv_aload_n hx hb d_AR_copyOf3_29 rfl (lv_at hl 1 rfl) ?_
  refine va_alen (v := 49) hx hb hK hP 0 0 rfl rfl rfl d_AR_copyOf3_30 ?_
  refine lv_iload_n hx hb d_AR_copyOf3_31 rfl (lv_at hl 2 rfl) ?_
  refine va_mmin hx hb (hml.trans hl.1.symm) hown (htb _ m_229) (htb _ m_230) (htb _ m_13) (htb _ m_231) (Nat.le_of_ble_eq_true rfl) (Nat.le_of_ble_eq_true rfl) (Nat.le_of_ble_eq_true rfl) (Nat.le_of_ble_eq_true rfl) d_AR_copyOf3_32 ?_
  refine W.eq (congrArg (fun z => F0 m 35 ls (.int z :: [.int 0, .ref eq, .int 0, .ref ed])) (by decide : (if (73 : Int32) < 49 then 73 else (49 : Int32)) = 49)) ?_
  refine va_copyM hx hb (hml.trans hl.1.symm) hown (htb _ m_232) (htb _ m_234) (htb _ m_233) (htb _ m_15) hK hP hD hS 0 1 0 0 rfl rfl rfl rfl (by decide) (by decide) (by decide) (by decide) (by decide) (fun i hi y hy => zz_any hE hci hK hP ((hel i hi y (by rw [← hy]; simp)).app _)) (Nat.le_of_ble_eq_true rfl) (by decide) d_AR_copyOf3_35 (fun H locs hP hD hS => ?_)
  rw [(rfl : va_cpy f (fun _ => none) (0 : Int32).toNatClampNeg (0 : Int32).toNatClampNeg (49 : Int32).toNatClampNeg = (va_cpy f (fun _ => none) 0 0 49))] at hP hD
  have hP : va_P (dC, dI) vwCl ([(ed, .inl (cO, 49, .inr (.inr (.inr (.inr f))))), (eq, .inl (cO, 73, .inr (.inr (.inr (.inr (va_cpy f (fun _ => none) 0 0 49))))))] ++ fz) H := hP
  have hD : va_D A ([(ed, .inl (cO, 49, .inr (.inr (.inr (.inr f))))), (eq, .inl (cO, 73, .inr (.inr (.inr (.inr (va_cpy f (fun _ => none) 0 0 49))))))] ++ fz) := hD
  refine lv_aload_n hx hb d_AR_copyOf3_38 rfl (lv_at hl 0 rfl) ?_
  have hP9 := zz_pickP (pre := [(ed, .inl (cO, 49, .inr (.inr (.inr (.inr f))))), (eq, .inl (cO, 73, .inr (.inr (.inr (.inr (va_cpy f (fun _ => none) 0 0 49))))))]) (fz := fz) (wc := [(ed, .inl (cO, 49, .inr (.inr (.inr (.inr f))))), (eq, .inl (cO, 73, .inr (.inr (.inr (.inr (va_cpy f (fun _ => none) 0 0 49))))))]) hP [0, 1] rfl
  have hD9 := zz_pickD (pre := [(ed, .inl (cO, 49, .inr (.inr (.inr (.inr f))))), (eq, .inl (cO, 73, .inr (.inr (.inr (.inr (va_cpy f (fun _ => none) 0 0 49))))))]) (fz := fz) (wc := [(ed, .inl (cO, 49, .inr (.inr (.inr (.inr f))))), (eq, .inl (cO, 73, .inr (.inr (.inr (.inr (va_cpy f (fun _ => none) 0 0 49))))))]) hD [0, 1] (by decide) rfl
  have hK9 := hK.sub (tys' := [(cO, .object "java/lang/Object")]) [0] rfl
  refine W.widen (k := 1) (n := 73) (Nat.le_of_ble_eq_true rfl) (Nat.le_of_ble_eq_true rfl) ?_
  exact W.aret (v := .ref eq) hx hb hr (Or.inr ⟨_, rfl⟩) (Or.inr ⟨_, rfl⟩) (fun t ht hW => ⟨⟨(), eq, rfl, trivial, ⟨by rw [ht]; exact hP9, va_K.moved hW.alike hK9, hD9⟩⟩, hS.F ht⟩) hS.2.2 d_AR_copyOf3_39
set_option maxHeartbeats 1000000 in
set_option maxRecDepth 100000 in
/-- Arrays.copyOf of 49 elements to 73 -/
theorem k_AR_copyOf2_49 (l : Launch) (dC : Nat → ClassId) (dI : Nat → Nat → Nat) (sz : Nat) (ed : Nat) (cO : ClassId) (f : Nat → Option Nat) (ci : Nat) (em : Nat) (aK : Nat → Nat) (aV : Nat → Nat) (fz : va_W) (hci : Oci ci) (hel : ∀ i, i < 49 → ∀ y, f i = some y → Vin ci fz y) : Met l y_AR_copyOf2 ws_AR_copyOf2 ({ frames := 2, cells := 1, slots := 73, locals := 63 }) (va_Pc [.ref ed, .int 73] (fun U => U.heap.size = sz ∧ va_P (dC, dI) vwCl ([(ed, .inl (cO, 49, .inr (.inr (.inr (.inr f)))))] ++ fz) U.heap ∧ va_K (dC, dI) vwCl [(cO, .object "java/lang/Object")] U ∧ va_D (fun _ => True) ([(ed, .inl (cO, 49, .inr (.inr (.inr (.inr f)))))] ++ fz) ∧ EX em aK aV (va_A ([(ed, .inl (cO, 49, .inr (.inr (.inr (.inr f)))))] ++ fz) sz) U U.heap)) (va_Qr (fun (u : Unit) => True) (fun u ra t => va_P (dC, dI) vwCl ([(ed, .inl (cO, 49, .inr (.inr (.inr (.inr f))))), (ra, .inl (cO, 73, .inr (.inr (.inr (.inr (va_cpy f (fun _ => none) 0 0 49))))))] ++ fz) t.heap ∧ va_K (dC, dI) vwCl [(cO, .object "java/lang/Object")] t ∧ va_D (va_A ([(ed, .inl (cO, 49, .inr (.inr (.inr (.inr f)))))] ++ fz) sz) ([(ed, .inl (cO, 49, .inr (.inr (.inr (.inr f))))), (ra, .inl (cO, 73, .inr (.inr (.inr (.inr (va_cpy f (fun _ => none) 0 0 49))))))] ++ fz)) (va_A ([(ed, .inl (cO, 49, .inr (.inr (.inr (.inr f)))))] ++ fz) sz)) 1 73 (va_A ([(ed, .inl (cO, 49, .inr (.inr (.inr (.inr f)))))] ++ fz) sz) := by
  refine Met.ofW (cc := c_AR_copyOf2) (maxL := 2) (ret := (some (.array (.object "java/lang/Object")))) (by decide) rfl ?_
  intro p e s m args below meth c s₁ B hml hv
  obtain ⟨rfl, hsz, hP, hK, hD0, hE⟩ := hv
  have hx := B.exec
  have hb := B.bytes
  have hr := B.returns
  have hts := atoms_spec (ws := ws_AR_copyOf2) B.pre
  have htb := fun w (h : w ∈ TBL) => hts w (List.mem_cons_of_mem _ h)
  have hown : s.vm.findClass R_AR = some m.cls := findClass_of_methodNamed B.named
  have hlocks := B.notSynchronized
  subst hsz
  have hD := hD0.self (sz := s.heap.size)
  generalize hAe : va_A ([(ed, .inl (cO, 49, .inr (.inr (.inr (.inr f)))))] ++ fz) s.heap.size = A at hD hE ⊢
  have hA : ∀ q : Nat, s.heap.size ≤ q → A q := fun q h => by rw [← hAe]; exact Or.inr h
  have hS : va_S A s.heap s.heap [] := va_S.rf
  have hP : va_P (dC, dI) vwCl ([(ed, .inl (cO, 49, .inr (.inr (.inr (.inr f)))))] ++ fz) s.heap := hP
  have hl := lv_entry ([.ref ed, .int 73]) (n := 2) (Nat.le_of_ble_eq_true rfl)
  rw [lg_entry_eq]
  generalize (lg_sl ([.ref ed, .int 73]) ++ List.replicate (2 - (lg_sl ([.ref ed, .int 73])).length) Slot.unset).toArray = ls at hl ⊢
  have hl : lv_has ls 2 [(0, .ref ed), (1, .int 73)] := hl
  refine lv_aload_n hx hb d_AR_copyOf2_0 rfl (lv_at hl 0 rfl) ?_
  refine lv_iload_n hx hb d_AR_copyOf2_1 rfl (lv_at hl 1 rfl) ?_
  refine lv_aload_n hx hb d_AR_copyOf2_2 rfl (lv_at hl 0 rfl) ?_
  refine va_getC (C := "[Ljava/lang/Object;") hx hb (hml.trans hl.1.symm) hown (htb _ m_542) (va_Nw.use rfl (nw_18 hE)) (htb _ m_1610) (htb _ m_543) (htb _ m_561) hE.mirror (zz_arrO hK hP 0 0 rfl rfl) (Nat.le_of_ble_eq_true rfl) (Nat.le_of_ble_eq_true rfl) d_AR_copyOf2_3 ?_
  have hPc := zz_pickP (pre := [(ed, .inl (cO, 49, .inr (.inr (.inr (.inr f)))))]) (fz := fz) (wc := [(ed, .inl (cO, 49, .inr (.inr (.inr (.inr f)))))]) hP [0] rfl
  have hDc := zz_pickD (pre := [(ed, .inl (cO, 49, .inr (.inr (.inr (.inr f)))))]) (fz := fz) (wc := [(ed, .inl (cO, 49, .inr (.inr (.inr (.inr f)))))]) hD [0] (by decide) rfl
  have hFc := zz_free (pre := [(ed, .inl (cO, 49, .inr (.inr (.inr (.inr f)))))]) (fz := fz) (wc := [(ed, .inl (cO, 49, .inr (.inr (.inr (.inr f)))))]) hD hS hA [0] rfl
  have hKc := hK.sub (tys' := [(cO, .object "java/lang/Object")]) [0] rfl
  refine va_callr (va_runS (As := [.ref ed, .int 73, .ref (aK 100)]) (rest := []) ⟨hx, hb, hml, hown, htb⟩ (k_AR_copyOf3_49 l dC dI _ ed cO f ci em aK aV fz hci hel) (va_cwS 3 htb (g_S (fun _ h => h) m_564 m_562 m_563 m_14) rfl rfl rfl (by decide +kernel) ⟨Nat.le_of_ble_eq_true rfl, Nat.le_of_ble_eq_true rfl⟩) ⟨fun a U g mk q => by obtain ⟨q0, q1, qP, qK, qD, z0⟩ := q; exact ⟨q0, q1, qP, va_K.moved (u := U) (U := U.calling g mk a) (Vm.Alike.refl U.vm) qK, qD, EX.same (U := U) (U' := U.calling g mk a) rfl z0⟩, fun U hU hW => ⟨rfl, by rw [hU], by rw [hU]; exact hPc, va_K.moved hW.alike hKc, hDc.weaken (fun _ _ _ _ => trivial), by rw [hU]; exact EX.warm hW ((hE.kept (fun a h1 h2 => hS.2.1 a h1 h2)).narrow hFc)⟩⟩ rfl rfl hl.1 rfl (lv_room (Nat.le_of_ble_eq_true rfl)) d_AR_copyOf2_6 ⟨Nat.le_of_ble_eq_true rfl, Nat.le_of_ble_eq_true rfl⟩) hS (fun q _ h => hFc q h) hFc (fun u1 ra4 t H1 locs ht hvm hw3 hB hz1 hk1 hS => ?_)
  obtain ⟨hP1, hK1, hD1⟩ := hB
  rw [ht] at hP1
  have hK1 := va_K.moved hvm.symm hK1
  have hw3 : True := hw3
  obtain ⟨hP, hD⟩ := zz_join (pre := [(ed, .inl (cO, 49, .inr (.inr (.inr (.inr f)))))]) (fz := fz) (wc := [(ed, .inl (cO, 49, .inr (.inr (.inr (.inr f)))))]) (wr := []) (w1 := ([(ed, .inl (cO, 49, .inr (.inr (.inr (.inr f))))), (ra4, .inl (cO, 73, .inr (.inr (.inr (.inr (va_cpy f (fun _ => none) 0 0 49))))))] ++ fz)) hP hD [0] [] rfl rfl (by decide) (by decide) hk1 hFc hP1 hD1
  have hK := (hK.sub (tys' := []) [] rfl).app hK1
  generalize H1 = H at hP hS ⊢
  have hP : va_P (dC, dI) vwCl ([(ed, .inl (cO, 49, .inr (.inr (.inr (.inr f))))), (ra4, .inl (cO, 73, .inr (.inr (.inr (.inr (va_cpy f (fun _ => none) 0 0 49))))))] ++ fz) H := hP
  have hD : va_D A ([(ed, .inl (cO, 49, .inr (.inr (.inr (.inr f))))), (ra4, .inl (cO, 73, .inr (.inr (.inr (.inr (va_cpy f (fun _ => none) 0 0 49))))))] ++ fz) := hD
  have hK : va_K (dC, dI) vwCl [(cO, .object "java/lang/Object")] s := hK
  refine W.widen (k := 1) (n := 73) (Nat.le_of_ble_eq_true rfl) (Nat.le_of_ble_eq_true rfl) ?_
  have hP9 := zz_pickP (pre := [(ed, .inl (cO, 49, .inr (.inr (.inr (.inr f))))), (ra4, .inl (cO, 73, .inr (.inr (.inr (.inr (va_cpy f (fun _ => none) 0 0 49))))))]) (fz := fz) (wc := [(ed, .inl (cO, 49, .inr (.inr (.inr (.inr f))))), (ra4, .inl (cO, 73, .inr (.inr (.inr (.inr (va_cpy f (fun _ => none) 0 0 49))))))]) hP [0, 1] rfl
  have hD9 := zz_pickD (pre := [(ed, .inl (cO, 49, .inr (.inr (.inr (.inr f))))), (ra4, .inl (cO, 73, .inr (.inr (.inr (.inr (va_cpy f (fun _ => none) 0 0 49))))))]) (fz := fz) (wc := [(ed, .inl (cO, 49, .inr (.inr (.inr (.inr f))))), (ra4, .inl (cO, 73, .inr (.inr (.inr (.inr (va_cpy f (fun _ => none) 0 0 49))))))]) hD [0, 1] (by decide) rfl
  have hK9 := hK.sub (tys' := [(cO, .object "java/lang/Object")]) [0] rfl
  refine W.widen (k := 1) (n := 73) (Nat.le_of_ble_eq_true rfl) (Nat.le_of_ble_eq_true rfl) ?_
  exact W.aret (v := .ref ra4) hx hb hr (Or.inr ⟨_, rfl⟩) (Or.inr ⟨_, rfl⟩) (fun t ht hW => ⟨⟨(), ra4, rfl, trivial, ⟨by rw [ht]; exact hP9, va_K.moved hW.alike hK9, hD9⟩⟩, hS.F ht⟩) hS.2.2 d_AR_copyOf2_9
set_option maxHeartbeats 1000000 in
set_option maxRecDepth 100000 in
/-- Arrays.copyOf of 73 elements to 109 -/
theorem k_AR_copyOf3_73 (l : Launch) (dC : Nat → ClassId) (dI : Nat → Nat → Nat) (sz : Nat) (ed : Nat) (cO : ClassId) (f : Nat → Option Nat) (ci : Nat) (em : Nat) (aK : Nat → Nat) (aV : Nat → Nat) (fz : va_W) (hci : Oci ci) (hel : ∀ i, i < 73 → ∀ y, f i = some y → Vin ci fz y) : Met l y_AR_copyOf3 ws_AR_copyOf3 ({ frames := 1, cells := 1, slots := 109, locals := 40 }) (va_Pc [.ref ed, .int 109, .ref (aK 100)] (fun U => U.heap.size = sz ∧ va_P (dC, dI) vwCl ([(ed, .inl (cO, 73, .inr (.inr (.inr (.inr f)))))] ++ fz) U.heap ∧ va_K (dC, dI) vwCl [(cO, .object "java/lang/Object")] U ∧ va_D (fun _ => True) ([(ed, .inl (cO, 73, .inr (.inr (.inr (.inr f)))))] ++ fz) ∧ EX em aK aV (va_A ([(ed, .inl (cO, 73, .inr (.inr (.inr (.inr f)))))] ++ fz) sz) U U.heap)) (va_Qr (fun (u : Unit) => True) (fun u ra t => va_P (dC, dI) vwCl ([(ed, .inl (cO, 73, .inr (.inr (.inr (.inr f))))), (ra, .inl (cO, 109, .inr (.inr (.inr (.inr (va_cpy f (fun _ => none) 0 0 73))))))] ++ fz) t.heap ∧ va_K (dC, dI) vwCl [(cO, .object "java/lang/Object")] t ∧ va_D (va_A ([(ed, .inl (cO, 73, .inr (.inr (.inr (.inr f)))))] ++ fz) sz) ([(ed, .inl (cO, 73, .inr (.inr (.inr (.inr f))))), (ra, .inl (cO, 109, .inr (.inr (.inr (.inr (va_cpy f (fun _ => none) 0 0 73))))))] ++ fz)) (va_A ([(ed, .inl (cO, 73, .inr (.inr (.inr (.inr f)))))] ++ fz) sz)) 1 109 (va_A ([(ed, .inl (cO, 73, .inr (.inr (.inr (.inr f)))))] ++ fz) sz) := by
  refine Met.ofW (cc := c_AR_copyOf3) (maxL := 4) (ret := (some (.array (.object "java/lang/Object")))) (by decide) rfl ?_
  intro p e s m args below meth c s₁ B hml hv
  obtain ⟨rfl, hsz, hP, hK, hD0, hE⟩ := hv
  have hx := B.exec
  have hb := B.bytes
  have hr := B.returns
  have hts := atoms_spec (ws := ws_AR_copyOf3) B.pre
  have htb := fun w (h : w ∈ TBL) => hts w (List.mem_cons_of_mem _ h)
  have hown : s.vm.findClass R_AR = some m.cls := findClass_of_methodNamed B.named
  have hlocks := B.notSynchronized
  subst hsz
  have hD := hD0.self (sz := s.heap.size)
  generalize hAe : va_A ([(ed, .inl (cO, 73, .inr (.inr (.inr (.inr f)))))] ++ fz) s.heap.size = A at hD hE ⊢
  have hA : ∀ q : Nat, s.heap.size ≤ q → A q := fun q h => by rw [← hAe]; exact Or.inr h
  have hS : va_S A s.heap s.heap [] := va_S.rf
  have hP : va_P (dC, dI) vwCl ([(ed, .inl (cO, 73, .inr (.inr (.inr (.inr f)))))] ++ fz) s.heap := hP
  have hl := lv_entry ([.ref ed, .int 109, .ref (aK 100)]) (n := 4) (Nat.le_of_ble_eq_true rfl)
  rw [lg_entry_eq]
  generalize (lg_sl ([.ref ed, .int 109, .ref (aK 100)]) ++ List.replicate (4 - (lg_sl ([.ref ed, .int 109, .ref (aK 100)])).length) Slot.unset).toArray = ls at hl ⊢
  have hl : lv_has ls 4 [(0, .ref ed), (1, .int 109), (2, .ref (aK 100))] := hl
  refine lv_aload_n hx hb d_AR_copyOf3_0 rfl (lv_at hl 2 rfl) ?_
  refine va_ldcM hx hb hown (htb _ m_565) hE.mirror d_AR_copyOf3_1 ?_
  refine lv_acmp_ne (rx := some (aK 100)) (ry := some (aK 100)) (tgt := 13) hx hb d_AR_copyOf3_3 rfl (fun h9 => absurd rfl h9) (fun _ => ?_)
  refine lv_iload_n hx hb d_AR_copyOf3_6 rfl (lv_at hl 1 rfl) ?_
  refine va_newq (N' := 109) hx hb hown (htb _ m_567) hE.overO hK hP hD hS hA (by decide) (by decide) (by decide) (Nat.le_of_ble_eq_true rfl) (Nat.le_of_ble_eq_true rfl) d_AR_copyOf3_7 (fun eq cN H hK hP hD hS => ?_)
  have hP := zz_rotP (pre := [(ed, .inl (cO, 73, .inr (.inr (.inr (.inr f)))))]) (fz := fz) hP
  have hD := zz_rotD (pre := [(ed, .inl (cO, 73, .inr (.inr (.inr (.inr f)))))]) (fz := fz) hD
  have hK : va_K (dC, dI) vwCl [(cO, .object "java/lang/Object"), (cN, .object "java/lang/Object")] s := hK
  have hP : va_P (dC, dI) vwCl ([(ed, .inl (cO, 73, .inr (.inr (.inr (.inr f))))), (eq, .inl (cN, 109, .inr (.inr (.inr (.inr (fun _ => none))))))] ++ fz) H := hP
  have hD : va_D A ([(ed, .inl (cO, 73, .inr (.inr (.inr (.inr f))))), (eq, .inl (cN, 109, .inr (.inr (.inr (.inr (fun _ => none))))))] ++ fz) := hD
  refine W.widen (k := 1) (n := 109) (Nat.le_of_ble_eq_true rfl) (Nat.le_of_ble_eq_true rfl) ?_
  obtain rfl : cO = cN := zz_ty hK 0 1 rfl rfl
  have hK := hK.sub (tys' := [(cO, .object "java/lang/Object")]) [0] rfl
  have hP : va_P (dC, dI) vwCl ([(ed, .inl (cO, 73, .inr (.inr (.inr (.inr f))))), (eq, .inl (cO, 109, .inr (.inr (.inr (.inr (fun _ => none))))))] ++ fz) H := hP
  have hD : va_D A ([(ed, .inl (cO, 73, .inr (.inr (.inr (.inr f))))), (eq, .inl (cO, 109, .inr (.inr (.inr (.inr (fun _ => none))))))] ++ fz) := hD
  refine lv_goto (tgt := 24) hx hb d_AR_copyOf3_10 rfl ?_
  refine lv_astore_n hx hb d_AR_copyOf3_24 rfl hl (by decide) rfl (fun ls hl => ?_)
  have hl : lv_has ls 4 [(3, .ref eq), (0, .ref ed), (1, .int 109), (2, .ref (aK 100))] := hl
  refine lv_aload_n hx hb d_AR_copyOf3_25 rfl (lv_at hl 1 rfl) ?_
  refine lv_iconst (v := 0) hx hb d_AR_copyOf3_26 (by decide) ?_
  refine lv_aload_n hx hb d_AR_copyOf3_27 rfl (lv_at hl 0 rfl) ?_
  refine lv_iconst (v := 0) hx hb d_AR_copyOf3_28 (by decide) ?_
  refine lv_aload_n hx hb d_AR_copyOf3_29 rfl (lv_at hl 1 rfl) ?_
  refine va_alen (v := 73) hx hb hK hP 0 0 rfl rfl rfl d_AR_copyOf3_30 ?_
  refine lv_iload_n hx hb d_AR_copyOf3_31 rfl (lv_at hl 2 rfl) ?_
  refine va_mmin hx hb (hml.trans hl.1.symm) hown (htb _ m_229) (htb _ m_230) (htb _ m_13) (htb _ m_231) (Nat.le_of_ble_eq_true rfl) (Nat.le_of_ble_eq_true rfl) (Nat.le_of_ble_eq_true rfl) (Nat.le_of_ble_eq_true rfl) d_AR_copyOf3_32 ?_
  refine W.eq (congrArg (fun z => F0 m 35 ls (.int z :: [.int 0, .ref eq, .int 0, .ref ed])) (by decide : (if (109 : Int32) < 73 then 109 else (73 : Int32)) = 73)) ?_
  refine va_copyM hx hb (hml.trans hl.1.symm) hown (htb _ m_232) (htb _ m_234) (htb _ m_233) (htb _ m_15) hK hP hD hS 0 1 0 0 rfl rfl rfl rfl (by decide) (by decide) (by decide) (by decide) (by decide) (fun i hi y hy => zz_any hE hci hK hP ((hel i hi y (by rw [← hy]; simp)).app _)) (Nat.le_of_ble_eq_true rfl) (by decide) d_AR_copyOf3_35 (fun H locs hP hD hS => ?_)
  rw [(rfl : va_cpy f (fun _ => none) (0 : Int32).toNatClampNeg (0 : Int32).toNatClampNeg (73 : Int32).toNatClampNeg = (va_cpy f (fun _ => none) 0 0 73))] at hP hD
  have hP : va_P (dC, dI) vwCl ([(ed, .inl (cO, 73, .inr (.inr (.inr (.inr f))))), (eq, .inl (cO, 109, .inr (.inr (.inr (.inr (va_cpy f (fun _ => none) 0 0 73))))))] ++ fz) H := hP
  have hD : va_D A ([(ed, .inl (cO, 73, .inr (.inr (.inr (.inr f))))), (eq, .inl (cO, 109, .inr (.inr (.inr (.inr (va_cpy f (fun _ => none) 0 0 73))))))] ++ fz) := hD
  refine lv_aload_n hx hb d_AR_copyOf3_38 rfl (lv_at hl 0 rfl) ?_
  have hP9 := zz_pickP (pre := [(ed, .inl (cO, 73, .inr (.inr (.inr (.inr f))))), (eq, .inl (cO, 109, .inr (.inr (.inr (.inr (va_cpy f (fun _ => none) 0 0 73))))))]) (fz := fz) (wc := [(ed, .inl (cO, 73, .inr (.inr (.inr (.inr f))))), (eq, .inl (cO, 109, .inr (.inr (.inr (.inr (va_cpy f (fun _ => none) 0 0 73))))))]) hP [0, 1] rfl
  have hD9 := zz_pickD (pre := [(ed, .inl (cO, 73, .inr (.inr (.inr (.inr f))))), (eq, .inl (cO, 109, .inr (.inr (.inr (.inr (va_cpy f (fun _ => none) 0 0 73))))))]) (fz := fz) (wc := [(ed, .inl (cO, 73, .inr (.inr (.inr (.inr f))))), (eq, .inl (cO, 109, .inr (.inr (.inr (.inr (va_cpy f (fun _ => none) 0 0 73))))))]) hD [0, 1] (by decide) rfl
  have hK9 := hK.sub (tys' := [(cO, .object "java/lang/Object")]) [0] rfl
  refine W.widen (k := 1) (n := 109) (Nat.le_of_ble_eq_true rfl) (Nat.le_of_ble_eq_true rfl) ?_
  exact W.aret (v := .ref eq) hx hb hr (Or.inr ⟨_, rfl⟩) (Or.inr ⟨_, rfl⟩) (fun t ht hW => ⟨⟨(), eq, rfl, trivial, ⟨by rw [ht]; exact hP9, va_K.moved hW.alike hK9, hD9⟩⟩, hS.F ht⟩) hS.2.2 d_AR_copyOf3_39
set_option maxHeartbeats 1000000 in
set_option maxRecDepth 100000 in
/-- Arrays.copyOf of 73 elements to 109 -/
theorem k_AR_copyOf2_73 (l : Launch) (dC : Nat → ClassId) (dI : Nat → Nat → Nat) (sz : Nat) (ed : Nat) (cO : ClassId) (f : Nat → Option Nat) (ci : Nat) (em : Nat) (aK : Nat → Nat) (aV : Nat → Nat) (fz : va_W) (hci : Oci ci) (hel : ∀ i, i < 73 → ∀ y, f i = some y → Vin ci fz y) : Met l y_AR_copyOf2 ws_AR_copyOf2 ({ frames := 2, cells := 1, slots := 109, locals := 63 }) (va_Pc [.ref ed, .int 109] (fun U => U.heap.size = sz ∧ va_P (dC, dI) vwCl ([(ed, .inl (cO, 73, .inr (.inr (.inr (.inr f)))))] ++ fz) U.heap ∧ va_K (dC, dI) vwCl [(cO, .object "java/lang/Object")] U ∧ va_D (fun _ => True) ([(ed, .inl (cO, 73, .inr (.inr (.inr (.inr f)))))] ++ fz) ∧ EX em aK aV (va_A ([(ed, .inl (cO, 73, .inr (.inr (.inr (.inr f)))))] ++ fz) sz) U U.heap)) (va_Qr (fun (u : Unit) => True) (fun u ra t => va_P (dC, dI) vwCl ([(ed, .inl (cO, 73, .inr (.inr (.inr (.inr f))))), (ra, .inl (cO, 109, .inr (.inr (.inr (.inr (va_cpy f (fun _ => none) 0 0 73))))))] ++ fz) t.heap ∧ va_K (dC, dI) vwCl [(cO, .object "java/lang/Object")] t ∧ va_D (va_A ([(ed, .inl (cO, 73, .inr (.inr (.inr (.inr f)))))] ++ fz) sz) ([(ed, .inl (cO, 73, .inr (.inr (.inr (.inr f))))), (ra, .inl (cO, 109, .inr (.inr (.inr (.inr (va_cpy f (fun _ => none) 0 0 73))))))] ++ fz)) (va_A ([(ed, .inl (cO, 73, .inr (.inr (.inr (.inr f)))))] ++ fz) sz)) 1 109 (va_A ([(ed, .inl (cO, 73, .inr (.inr (.inr (.inr f)))))] ++ fz) sz) := by
  refine Met.ofW (cc := c_AR_copyOf2) (maxL := 2) (ret := (some (.array (.object "java/lang/Object")))) (by decide) rfl ?_
  intro p e s m args below meth c s₁ B hml hv
  obtain ⟨rfl, hsz, hP, hK, hD0, hE⟩ := hv
  have hx := B.exec
  have hb := B.bytes
  have hr := B.returns
  have hts := atoms_spec (ws := ws_AR_copyOf2) B.pre
  have htb := fun w (h : w ∈ TBL) => hts w (List.mem_cons_of_mem _ h)
  have hown : s.vm.findClass R_AR = some m.cls := findClass_of_methodNamed B.named
  have hlocks := B.notSynchronized
  subst hsz
  have hD := hD0.self (sz := s.heap.size)
  generalize hAe : va_A ([(ed, .inl (cO, 73, .inr (.inr (.inr (.inr f)))))] ++ fz) s.heap.size = A at hD hE ⊢
  have hA : ∀ q : Nat, s.heap.size ≤ q → A q := fun q h => by rw [← hAe]; exact Or.inr h
  have hS : va_S A s.heap s.heap [] := va_S.rf
  have hP : va_P (dC, dI) vwCl ([(ed, .inl (cO, 73, .inr (.inr (.inr (.inr f)))))] ++ fz) s.heap := hP
  have hl := lv_entry ([.ref ed, .int 109]) (n := 2) (Nat.le_of_ble_eq_true rfl)
  rw [lg_entry_eq]
  generalize (lg_sl ([.ref ed, .int 109]) ++ List.replicate (2 - (lg_sl ([.ref ed, .int 109])).length) Slot.unset).toArray = ls at hl ⊢
  have hl : lv_has ls 2 [(0, .ref ed), (1, .int 109)] := hl
  refine lv_aload_n hx hb d_AR_copyOf2_0 rfl (lv_at hl 0 rfl) ?_
  refine lv_iload_n hx hb d_AR_copyOf2_1 rfl (lv_at hl 1 rfl) ?_
  refine lv_aload_n hx hb d_AR_copyOf2_2 rfl (lv_at hl 0 rfl) ?_
  refine va_getC (C := "[Ljava/lang/Object;") hx hb (hml.trans hl.1.symm) hown (htb _ m_542) (va_Nw.use rfl (nw_18 hE)) (htb _ m_1610) (htb _ m_543) (htb _ m_561) hE.mirror (zz_arrO hK hP 0 0 rfl rfl) (Nat.le_of_ble_eq_true rfl) (Nat.le_of_ble_eq_true rfl) d_AR_copyOf2_3 ?_
  have hPc := zz_pickP (pre := [(ed, .inl (cO, 73, .inr (.inr (.inr (.inr f)))))]) (fz := fz) (wc := [(ed, .inl (cO, 73, .inr (.inr (.inr (.inr f)))))]) hP [0] rfl
  have hDc := zz_pickD (pre := [(ed, .inl (cO, 73, .inr (.inr (.inr (.inr f)))))]) (fz := fz) (wc := [(ed, .inl (cO, 73, .inr (.inr (.inr (.inr f)))))]) hD [0] (by decide) rfl
  have hFc := zz_free (pre := [(ed, .inl (cO, 73, .inr (.inr (.inr (.inr f)))))]) (fz := fz) (wc := [(ed, .inl (cO, 73, .inr (.inr (.inr (.inr f)))))]) hD hS hA [0] rfl
  have hKc := hK.sub (tys' := [(cO, .object "java/lang/Object")]) [0] rfl
  refine va_callr (va_runS (As := [.ref ed, .int 109, .ref (aK 100)]) (rest := []) ⟨hx, hb, hml, hown, htb⟩ (k_AR_copyOf3_73 l dC dI _ ed cO f ci em aK aV fz hci hel) (va_cwS 3 htb (g_S (fun _ h => h) m_564 m_562 m_563 m_14) rfl rfl rfl (by decide +kernel) ⟨Nat.le_of_ble_eq_true rfl, Nat.le_of_ble_eq_true rfl⟩) ⟨fun a U g mk q => by obtain ⟨q0, q1, qP, qK, qD, z0⟩ := q; exact ⟨q0, q1, qP, va_K.moved (u := U) (U := U.calling g mk a) (Vm.Alike.refl U.vm) qK, qD, EX.same (U := U) (U' := U.calling g mk a) rfl z0⟩, fun U hU hW => ⟨rfl, by rw [hU], by rw [hU]; exact hPc, va_K.moved hW.alike hKc, hDc.weaken (fun _ _ _ _ => trivial), by rw [hU]; exact EX.warm hW ((hE.kept (fun a h1 h2 => hS.2.1 a h1 h2)).narrow hFc)⟩⟩ rfl rfl hl.1 rfl (lv_room (Nat.le_of_ble_eq_true rfl)) d_AR_copyOf2_6 ⟨Nat.le_of_ble_eq_true rfl, Nat.le_of_ble_eq_true rfl⟩) hS (fun q _ h => hFc q h) hFc (fun u1 ra4 t H1 locs ht hvm hw3 hB hz1 hk1 hS => ?_)
  obtain ⟨hP1, hK1, hD1⟩ := hB
  rw [ht] at hP1
  have hK1 := va_K.moved hvm.symm hK1
  have hw3 : True := hw3
  obtain ⟨hP, hD⟩ := zz_join (pre := [(ed, .inl (cO, 73, .inr (.inr (.inr (.inr f)))))]) (fz := fz) (wc := [(ed, .inl (cO, 73, .inr (.inr (.inr (.inr f)))))]) (wr := []) (w1 := ([(ed, .inl (cO, 73, .inr (.inr (.inr (.inr f))))), (ra4, .inl (cO, 109, .inr (.inr (.inr (.inr (va_cpy f (fun _ => none) 0 0 73))))))] ++ fz)) hP hD [0] [] rfl rfl (by decide) (by decide) hk1 hFc hP1 hD1
  have hK := (hK.sub (tys' := []) [] rfl).app hK1
  generalize H1 = H at hP hS ⊢
  have hP : va_P (dC, dI) vwCl ([(ed, .inl (cO, 73, .inr (.inr (.inr (.inr f))))), (ra4, .inl (cO, 109, .inr (.inr (.inr (.inr (va_cpy f (fun _ => none) 0 0 73))))))] ++ fz) H := hP
  have hD : va_D A ([(ed, .inl (cO, 73, .inr (.inr (.inr (.inr f))))), (ra4, .inl (cO, 109, .inr (.inr (.inr (.inr (va_cpy f (fun _ => none) 0 0 73))))))] ++ fz) := hD
  have hK : va_K (dC, dI) vwCl [(cO, .object "java/lang/Object")] s := hK
  refine W.widen (k := 1) (n := 109) (Nat.le_of_ble_eq_true rfl) (Nat.le_of_ble_eq_true rfl) ?_
  have hP9 := zz_pickP (pre := [(ed, .inl (cO, 73, .inr (.inr (.inr (.inr f))))), (ra4, .inl (cO, 109, .inr (.inr (.inr (.inr (va_cpy f (fun _ => none) 0 0 73))))))]) (fz := fz) (wc := [(ed, .inl (cO, 73, .inr (.inr (.inr (.inr f))))), (ra4, .inl (cO, 109, .inr (.inr (.inr (.inr (va_cpy f (fun _ => none) 0 0 73))))))]) hP [0, 1] rfl
  have hD9 := zz_pickD (pre := [(ed, .inl (cO, 73, .inr (.inr (.inr (.inr f))))), (ra4, .inl (cO, 109, .inr (.inr (.inr (.inr (va_cpy f (fun _ => none) 0 0 73))))))]) (fz := fz) (wc := [(ed, .inl (cO, 73, .inr (.inr (.inr (.inr f))))), (ra4, .inl (cO, 109, .inr (.inr (.inr (.inr (va_cpy f (fun _ => none) 0 0 73))))))]) hD [0, 1] (by decide) rfl
  have hK9 := hK.sub (tys' := [(cO, .object "java/lang/Object")]) [0] rfl
  refine W.widen (k := 1) (n := 109) (Nat.le_of_ble_eq_true rfl) (Nat.le_of_ble_eq_true rfl) ?_
  exact W.aret (v := .ref ra4) hx hb hr (Or.inr ⟨_, rfl⟩) (Or.inr ⟨_, rfl⟩) (fun t ht hW => ⟨⟨(), ra4, rfl, trivial, ⟨by rw [ht]; exact hP9, va_K.moved hW.alike hK9, hD9⟩⟩, hS.F ht⟩) hS.2.2 d_AR_copyOf2_9
set_option maxHeartbeats 1000000 in
set_option maxRecDepth 100000 in
/-- Arrays.copyOf of 109 elements to 163 -/
theorem k_AR_copyOf3_109 (l : Launch) (dC : Nat → ClassId) (dI : Nat → Nat → Nat) (sz : Nat) (ed : Nat) (cO : ClassId) (f : Nat → Option Nat) (ci : Nat) (em : Nat) (aK : Nat → Nat) (aV : Nat → Nat) (fz : va_W) (hci : Oci ci) (hel : ∀ i, i < 109 → ∀ y, f i = some y → Vin ci fz y) : Met l y_AR_copyOf3 ws_AR_copyOf3 ({ frames := 1, cells := 1, slots := 163, locals := 40 }) (va_Pc [.ref ed, .int 163, .ref (aK 100)] (fun U => U.heap.size = sz ∧ va_P (dC, dI) vwCl ([(ed, .inl (cO, 109, .inr (.inr (.inr (.inr f)))))] ++ fz) U.heap ∧ va_K (dC, dI) vwCl [(cO, .object "java/lang/Object")] U ∧ va_D (fun _ => True) ([(ed, .inl (cO, 109, .inr (.inr (.inr (.inr f)))))] ++ fz) ∧ EX em aK aV (va_A ([(ed, .inl (cO, 109, .inr (.inr (.inr (.inr f)))))] ++ fz) sz) U U.heap)) (va_Qr (fun (u : Unit) => True) (fun u ra t => va_P (dC, dI) vwCl ([(ed, .inl (cO, 109, .inr (.inr (.inr (.inr f))))), (ra, .inl (cO, 163, .inr (.inr (.inr (.inr (va_cpy f (fun _ => none) 0 0 109))))))] ++ fz) t.heap ∧ va_K (dC, dI) vwCl [(cO, .object "java/lang/Object")] t ∧ va_D (va_A ([(ed, .inl (cO, 109, .inr (.inr (.inr (.inr f)))))] ++ fz) sz) ([(ed, .inl (cO, 109, .inr (.inr (.inr (.inr f))))), (ra, .inl (cO, 163, .inr (.inr (.inr (.inr (va_cpy f (fun _ => none) 0 0 109))))))] ++ fz)) (va_A ([(ed, .inl (cO, 109, .inr (.inr (.inr (.inr f)))))] ++ fz) sz)) 1 163 (va_A ([(ed, .inl (cO, 109, .inr (.inr (.inr (.inr f)))))] ++ fz) sz) := by
  refine Met.ofW (cc := c_AR_copyOf3) (maxL := 4) (ret := (some (.array (.object "java/lang/Object")))) (by decide) rfl ?_
  intro p e s m args below meth c s₁ B hml hv
  obtain ⟨rfl, hsz, hP, hK, hD0, hE⟩ := hv
  have hx := B.exec
  have hb := B.bytes
  have hr := B.returns
  have hts := atoms_spec (ws := ws_AR_copyOf3) B.pre
  have htb := fun w (h : w ∈ TBL) => hts w (List.mem_cons_of_mem _ h)
  have hown : s.vm.findClass R_AR = some m.cls := findClass_of_methodNamed B.named
  have hlocks := B.notSynchronized
  subst hsz
  have hD := hD0.self (sz := s.heap.size)
  generalize hAe : va_A ([(ed, .inl (cO, 109, .inr (.inr (.inr (.inr f)))))] ++ fz) s.heap.size = A at hD hE ⊢
  have hA : ∀ q : Nat, s.heap.size ≤ q → A q := fun q h => by rw [← hAe]; exact Or.inr h
  have hS : va_S A s.heap s.heap [] := va_S.rf
  have hP : va_P (dC, dI) vwCl ([(ed, .inl (cO, 109, .inr (.inr (.inr (.inr f)))))] ++ fz) s.heap := hP
  have hl := lv_entry ([.ref ed, .int 163, .ref (aK 100)]) (n := 4) (Nat.le_of_ble_eq_true rfl)
  rw [lg_entry_eq]
  generalize (lg_sl ([.ref ed, .int 163, .ref (aK 100)]) ++ List.replicate (4 - (lg_sl ([.ref ed, .int 163, .ref (aK 100)])).length) Slot.unset).toArray = ls at hl ⊢
  have hl : lv_has ls 4 [(0, .ref ed), (1, .int 163), (2, .ref (aK 100))] := hl
  refine lv_aload_n hx hb d_AR_copyOf3_0 rfl (lv_at hl 2 rfl) ?_
  refine va_ldcM hx hb hown (htb _ m_565) hE.mirror d_AR_copyOf3_1 ?_
  refine lv_acmp_ne (rx := some (aK 100)) (ry := some (aK 100)) (tgt := 13) hx hb d_AR_copyOf3_3 rfl (fun h9 => absurd rfl h9) (fun _ => ?_)
  refine lv_iload_n hx hb d_AR_copyOf3_6 rfl (lv_at hl 1 rfl) ?_
  refine va_newq (N' := 163) hx hb hown (htb _ m_567) hE.overO hK hP hD hS hA (by decide) (by decide) (by decide) (Nat.le_of_ble_eq_true rfl) (Nat.le_of_ble_eq_true rfl) d_AR_copyOf3_7 (fun eq cN H hK hP hD hS => ?_)
  have hP := zz_rotP (pre := [(ed, .inl (cO, 109, .inr (.inr (.inr (.inr f)))))]) (fz := fz) hP
  have hD := zz_rotD (pre := [(ed, .inl (cO, 109, .inr (.inr (.inr (.inr f)))))]) (fz := fz) hD
  have hK : va_K (dC, dI) vwCl [(cO, .object "java/lang/Object"), (cN, .object "java/lang/Object")] s := hK
  have hP : va_P (dC, dI) vwCl ([(ed, .inl (cO, 109, .inr (.inr (.inr (.inr f))))), (eq, .inl (cN, 163, .inr (.inr (.inr (.inr (fun _ => none))))))] ++ fz) H := hP
  have hD : va_D A ([(ed, .inl (cO, 109, .inr (.inr (.inr (.inr f))))), (eq, .inl (cN, 163, .inr (.inr (.inr (.inr (fun _ => none))))))] ++ fz) := hD
  refine W.widen (k := 1) (n := 163) (Nat.le_of_ble_eq_true rfl) (Nat.le_of_ble_eq_true rfl) ?_
  obtain rfl : cO = cN := zz_ty hK 0 1 rfl rfl
  have hK := hK.sub (tys' := [(cO, .object "java/lang/Object")]) [0] rfl
  have hP : va_P (dC, dI) vwCl ([(ed, .inl (cO, 109, .inr (.inr (.inr (.inr f))))), (eq, .inl (cO, 163, .inr (.inr (.inr (.inr (fun _ => none))))))] ++ fz) H := hP
  have hD : va_D A ([(ed, .inl (cO, 109, .inr (.inr (.inr (.inr f))))), (eq, .inl (cO, 163, .inr (.inr (.inr (.inr (fun _ => none))))))] ++ fz) := hD
  refine lv_goto (tgt := 24) hx hb d_AR_copyOf3_10 rfl ?_
  refine lv_astore_n hx hb d_AR_copyOf3_24 rfl hl (by decide) rfl (fun ls hl => ?_)
  have hl : lv_has ls 4 [(3, .ref eq), (0, .ref ed), (1, .int 163), (2, .ref (aK 100))] := hl
  refine lv_aload_n hx hb d_AR_copyOf3_25 rfl (lv_at hl 1 rfl) ?_
  refine lv_iconst (v := 0) hx hb d_AR_copyOf3_26 (by decide) ?_
  refine lv_aload_n hx hb d_AR_copyOf3_27 rfl (lv_at hl 0 rfl) ?_
  refine lv_iconst (v := 0) hx hb d_AR_copyOf3_28 (by decide) ?_
  refine lv_aload_n hx hb d_AR_copyOf3_29 rfl (lv_at hl 1 rfl) ?_
  refine va_alen (v := 109) hx hb hK hP 0 0 rfl rfl rfl d_AR_copyOf3_30 ?_
  refine lv_iload_n hx hb d_AR_copyOf3_31 rfl (lv_at hl 2 rfl) ?_
  refine va_mmin hx hb (hml.trans hl.1.symm) hown (htb _ m_229) (htb _ m_230) (htb _ m_13) (htb _ m_231) (Nat.le_of_ble_eq_true rfl) (Nat.le_of_ble_eq_true rfl) (Nat.le_of_ble_eq_true rfl) (Nat.le_of_ble_eq_true rfl) d_AR_copyOf3_32 ?_
  refine W.eq (congrArg (fun z => F0 m 35 ls (.int z :: [.int 0, .ref eq, .int 0, .ref ed])) (by decide : (if (163 : Int32) < 109 then 163 else (109 : Int32)) = 109)) ?_
  refine va_copyM hx hb (hml.trans hl.1.symm) hown (htb _ m_232) (htb _ m_234) (htb _ m_233) (htb _ m_15) hK hP hD hS 0 1 0 0 rfl rfl rfl rfl (by decide) (by decide) (by decide) (by decide) (by decide) (fun i hi y hy => zz_any hE hci hK hP ((hel i hi y (by rw [← hy]; simp)).app _)) (Nat.le_of_ble_eq_true rfl) (by decide) d_AR_copyOf3_35 (fun H locs hP hD hS => ?_)
  rw [(rfl : va_cpy f (fun _ => none) (0 : Int32).toNatClampNeg (0 : Int32).toNatClampNeg (109 : Int32).toNatClampNeg = (va_cpy f (fun _ => none) 0 0 109))] at hP hD
  have hP : va_P (dC, dI) vwCl ([(ed, .inl (cO, 109, .inr (.inr (.inr (.inr f))))), (eq, .inl (cO, 163, .inr (.inr (.inr (.inr (va_cpy f (fun _ => none) 0 0 109))))))] ++ fz) H := hP
  have hD : va_D A ([(ed, .inl (cO, 109, .inr (.inr (.inr (.inr f))))), (eq, .inl (cO, 163, .inr (.inr (.inr (.inr (va_cpy f (fun _ => none) 0 0 109))))))] ++ fz) := hD
  refine lv_aload_n hx hb d_AR_copyOf3_38 rfl (lv_at hl 0 rfl) ?_
  have hP9 := zz_pickP (pre := [(ed, .inl (cO, 109, .inr (.inr (.inr (.inr f))))), (eq, .inl (cO, 163, .inr (.inr (.inr (.inr (va_cpy f (fun _ => none) 0 0 109))))))]) (fz := fz) (wc := [(ed, .inl (cO, 109, .inr (.inr (.inr (.inr f))))), (eq, .inl (cO, 163, .inr (.inr (.inr (.inr (va_cpy f (fun _ => none) 0 0 109))))))]) hP [0, 1] rfl
  have hD9 := zz_pickD (pre := [(ed, .inl (cO, 109, .inr (.inr (.inr (.inr f))))), (eq, .inl (cO, 163, .inr (.inr (.inr (.inr (va_cpy f (fun _ => none) 0 0 109))))))]) (fz := fz) (wc := [(ed, .inl (cO, 109, .inr (.inr (.inr (.inr f))))), (eq, .inl (cO, 163, .inr (.inr (.inr (.inr (va_cpy f (fun _ => none) 0 0 109))))))]) hD [0, 1] (by decide) rfl
  have hK9 := hK.sub (tys' := [(cO, .object "java/lang/Object")]) [0] rfl
  refine W.widen (k := 1) (n := 163) (Nat.le_of_ble_eq_true rfl) (Nat.le_of_ble_eq_true rfl) ?_
  exact W.aret (v := .ref eq) hx hb hr (Or.inr ⟨_, rfl⟩) (Or.inr ⟨_, rfl⟩) (fun t ht hW => ⟨⟨(), eq, rfl, trivial, ⟨by rw [ht]; exact hP9, va_K.moved hW.alike hK9, hD9⟩⟩, hS.F ht⟩) hS.2.2 d_AR_copyOf3_39
set_option maxHeartbeats 1000000 in
set_option maxRecDepth 100000 in
/-- Arrays.copyOf of 109 elements to 163 -/
theorem k_AR_copyOf2_109 (l : Launch) (dC : Nat → ClassId) (dI : Nat → Nat → Nat) (sz : Nat) (ed : Nat) (cO : ClassId) (f : Nat → Option Nat) (ci : Nat) (em : Nat) (aK : Nat → Nat) (aV : Nat → Nat) (fz : va_W) (hci : Oci ci) (hel : ∀ i, i < 109 → ∀ y, f i = some y → Vin ci fz y) : Met l y_AR_copyOf2 ws_AR_copyOf2 ({ frames := 2, cells := 1, slots := 163, locals := 63 }) (va_Pc [.ref ed, .int 163] (fun U => U.heap.size = sz ∧ va_P (dC, dI) vwCl ([(ed, .inl (cO, 109, .inr (.inr (.inr (.inr f)))))] ++ fz) U.heap ∧ va_K (dC, dI) vwCl [(cO, .object "java/lang/Object")] U ∧ va_D (fun _ => True) ([(ed, .inl (cO, 109, .inr (.inr (.inr (.inr f)))))] ++ fz) ∧ EX em aK aV (va_A ([(ed, .inl (cO, 109, .inr (.inr (.inr (.inr f)))))] ++ fz) sz) U U.heap)) (va_Qr (fun (u : Unit) => True) (fun u ra t => va_P (dC, dI) vwCl ([(ed, .inl (cO, 109, .inr (.inr (.inr (.inr f))))), (ra, .inl (cO, 163, .inr (.inr (.inr (.inr (va_cpy f (fun _ => none) 0 0 109))))))] ++ fz) t.heap ∧ va_K (dC, dI) vwCl [(cO, .object "java/lang/Object")] t ∧ va_D (va_A ([(ed, .inl (cO, 109, .inr (.inr (.inr (.inr f)))))] ++ fz) sz) ([(ed, .inl (cO, 109, .inr (.inr (.inr (.inr f))))), (ra, .inl (cO, 163, .inr (.inr (.inr (.inr (va_cpy f (fun _ => none) 0 0 109))))))] ++ fz)) (va_A ([(ed, .inl (cO, 109, .inr (.inr (.inr (.inr f)))))] ++ fz) sz)) 1 163 (va_A ([(ed, .inl (cO, 109, .inr (.inr (.inr (.inr f)))))] ++ fz) sz) := by
  refine Met.ofW (cc := c_AR_copyOf2) (maxL := 2) (ret := (some (.array (.object "java/lang/Object")))) (by decide) rfl ?_
  intro p e s m args below meth c s₁ B hml hv
  obtain ⟨rfl, hsz, hP, hK, hD0, hE⟩ := hv
  have hx := B.exec
  have hb := B.bytes
  have hr := B.returns
  have hts := atoms_spec (ws := ws_AR_copyOf2) B.pre
  have htb := fun w (h : w ∈ TBL) => hts w (List.mem_cons_of_mem _ h)
  have hown : s.vm.findClass R_AR = some m.cls := findClass_of_methodNamed B.named
  have hlocks := B.notSynchronized
  subst hsz
  have hD := hD0.self (sz := s.heap.size)
  generalize hAe : va_A ([(ed, .inl (cO, 109, .inr (.inr (.inr (.inr f)))))] ++ fz) s.heap.size = A at hD hE ⊢
  have hA : ∀ q : Nat, s.heap.size ≤ q → A q := fun q h => by rw [← hAe]; exact Or.inr h
  have hS : va_S A s.heap s.heap [] := va_S.rf
  have hP : va_P (dC, dI) vwCl ([(ed, .inl (cO, 109, .inr (.inr (.inr (.inr f)))))] ++ fz) s.heap := hP
  have hl := lv_entry ([.ref ed, .int 163]) (n := 2) (Nat.le_of_ble_eq_true rfl)
  rw [lg_entry_eq]
  generalize (lg_sl ([.ref ed, .int 163]) ++ List.replicate (2 - (lg_sl ([.ref ed, .int 163])).length) Slot.unset).toArray = ls at hl ⊢
  have hl : lv_has ls 2 [(0, .ref ed), (1, .int 163)] := hl
  refine lv_aload_n hx hb d_AR_copyOf2_0 rfl (lv_at hl 0 rfl) ?_
  refine lv_iload_n hx hb d_AR_copyOf2_1 rfl (lv_at hl 1 rfl) ?_
  refine lv_aload_n hx hb d_AR_copyOf2_2 rfl (lv_at hl 0 rfl) ?_
  refine va_getC (C := "[Ljava/lang/Object;") hx hb (hml.trans hl.1.symm) hown (htb _ m_542) (va_Nw.use rfl (nw_18 hE)) (htb _ m_1610) (htb _ m_543) (htb _ m_561) hE.mirror (zz_arrO hK hP 0 0 rfl rfl) (Nat.le_of_ble_eq_true rfl) (Nat.le_of_ble_eq_true rfl) d_AR_copyOf2_3 ?_
  have hPc := zz_pickP (pre := [(ed, .inl (cO, 109, .inr (.inr (.inr (.inr f)))))]) (fz := fz) (wc := [(ed, .inl (cO, 109, .inr (.inr (.inr (.inr f)))))]) hP [0] rfl
  have hDc := zz_pickD (pre := [(ed, .inl (cO, 109, .inr (.inr (.inr (.inr f)))))]) (fz := fz) (wc := [(ed, .inl (cO, 109, .inr (.inr (.inr (.inr f)))))]) hD [0] (by decide) rfl
  have hFc := zz_free (pre := [(ed, .inl (cO, 109, .inr (.inr (.inr (.inr f)))))]) (fz := fz) (wc := [(ed, .inl (cO, 109, .inr (.inr (.inr (.inr f)))))]) hD hS hA [0] rfl
  have hKc := hK.sub (tys' := [(cO, .object "java/lang/Object")]) [0] rfl
  refine va_callr (va_runS (As := [.ref ed, .int 163, .ref (aK 100)]) (rest := []) ⟨hx, hb, hml, hown, htb⟩ (k_AR_copyOf3_109 l dC dI _ ed cO f ci em aK aV fz hci hel) (va_cwS 3 htb (g_S (fun _ h => h) m_564 m_562 m_563 m_14) rfl rfl rfl (by decide +kernel) ⟨Nat.le_of_ble_eq_true rfl, Nat.le_of_ble_eq_true rfl⟩) ⟨fun a U g mk q => by obtain ⟨q0, q1, qP, qK, qD, z0⟩ := q; exact ⟨q0, q1, qP, va_K.moved (u := U) (U := U.calling g mk a) (Vm.Alike.refl U.vm) qK, qD, EX.same (U := U) (U' := U.calling g mk a) rfl z0⟩, fun U hU hW => ⟨rfl, by rw [hU], by rw [hU]; exact hPc, va_K.moved hW.alike hKc, hDc.weaken (fun _ _ _ _ => trivial), by rw [hU]; exact EX.warm hW ((hE.kept (fun a h1 h2 => hS.2.1 a h1 h2)).narrow hFc)⟩⟩ rfl rfl hl.1 rfl (lv_room (Nat.le_of_ble_eq_true rfl)) d_AR_copyOf2_6 ⟨Nat.le_of_ble_eq_true rfl, Nat.le_of_ble_eq_true rfl⟩) hS (fun q _ h => hFc q h) hFc (fun u1 ra4 t H1 locs ht hvm hw3 hB hz1 hk1 hS => ?_)
  obtain ⟨hP1, hK1, hD1⟩ := hB
  rw [ht] at hP1
  have hK1 := va_K.moved hvm.symm hK1
  have hw3 : True := hw3
  obtain ⟨hP, hD⟩ := zz_join (pre := [(ed, .inl (cO, 109, .inr (.inr (.inr (.inr f)))))]) (fz := fz) (wc := [(ed, .inl (cO, 109, .inr (.inr (.inr (.inr f)))))]) (wr := []) (w1 := ([(ed, .inl (cO, 109, .inr (.inr (.inr (.inr f))))), (ra4, .inl (cO, 163, .inr (.inr (.inr (.inr (va_cpy f (fun _ => none) 0 0 109))))))] ++ fz)) hP hD [0] [] rfl rfl (by decide) (by decide) hk1 hFc hP1 hD1
  have hK := (hK.sub (tys' := []) [] rfl).app hK1
  generalize H1 = H at hP hS ⊢
  have hP : va_P (dC, dI) vwCl ([(ed, .inl (cO, 109, .inr (.inr (.inr (.inr f))))), (ra4, .inl (cO, 163, .inr (.inr (.inr (.inr (va_cpy f (fun _ => none) 0 0 109))))))] ++ fz) H := hP
  have hD : va_D A ([(ed, .inl (cO, 109, .inr (.inr (.inr (.inr f))))), (ra4, .inl (cO, 163, .inr (.inr (.inr (.inr (va_cpy f (fun _ => none) 0 0 109))))))] ++ fz) := hD
  have hK : va_K (dC, dI) vwCl [(cO, .object "java/lang/Object")] s := hK
  refine W.widen (k := 1) (n := 163) (Nat.le_of_ble_eq_true rfl) (Nat.le_of_ble_eq_true rfl) ?_
  have hP9 := zz_pickP (pre := [(ed, .inl (cO, 109, .inr (.inr (.inr (.inr f))))), (ra4, .inl (cO, 163, .inr (.inr (.inr (.inr (va_cpy f (fun _ => none) 0 0 109))))))]) (fz := fz) (wc := [(ed, .inl (cO, 109, .inr (.inr (.inr (.inr f))))), (ra4, .inl (cO, 163, .inr (.inr (.inr (.inr (va_cpy f (fun _ => none) 0 0 109))))))]) hP [0, 1] rfl
  have hD9 := zz_pickD (pre := [(ed, .inl (cO, 109, .inr (.inr (.inr (.inr f))))), (ra4, .inl (cO, 163, .inr (.inr (.inr (.inr (va_cpy f (fun _ => none) 0 0 109))))))]) (fz := fz) (wc := [(ed, .inl (cO, 109, .inr (.inr (.inr (.inr f))))), (ra4, .inl (cO, 163, .inr (.inr (.inr (.inr (va_cpy f (fun _ => none) 0 0 109))))))]) hD [0, 1] (by decide) rfl
  have hK9 := hK.sub (tys' := [(cO, .object "java/lang/Object")]) [0] rfl
  refine W.widen (k := 1) (n := 163) (Nat.le_of_ble_eq_true rfl) (Nat.le_of_ble_eq_true rfl) ?_
  exact W.aret (v := .ref ra4) hx hb hr (Or.inr ⟨_, rfl⟩) (Or.inr ⟨_, rfl⟩) (fun t ht hW => ⟨⟨(), ra4, rfl, trivial, ⟨by rw [ht]; exact hP9, va_K.moved hW.alike hK9, hD9⟩⟩, hS.F ht⟩) hS.2.2 d_AR_copyOf2_9
set_option maxHeartbeats 1000000 in
set_option maxRecDepth 100000 in
/-- grow(11) -/
theorem k_AL_grow2_10 (l : Launch) (dC : Nat → ClassId) (dI : Nat → Nat → Nat) (sz : Nat) (x : Nat) (mo : Int32) (ed : Nat) (cO : ClassId) (f : Nat → Option Nat) (ci : Nat) (em : Nat) (aK : Nat → Nat) (aV : Nat → Nat) (fz : va_W) (hci : Oci ci) (hel : ∀ i, i < 10 → ∀ y, f i = some y → Vin ci fz y) : Met l y_AL_grow2 ws_AL_grow2 ({ frames := 3, cells := 1, slots := 15, locals := 84 }) (va_Pc [.ref x, .int 11] (fun U => U.heap.size = sz ∧ va_P (dC, dI) vwCl ([(x, .inr (14, [.ref ed, .int 10, .int mo])), (ed, .inl (cO, 10, .inr (.inr (.inr (.inr f)))))] ++ fz) U.heap ∧ va_K (dC, dI) vwCl [(cO, .object "java/lang/Object")] U ∧ va_D (fun _ => True) ([(x, .inr (14, [.ref ed, .int 10, .int mo])), (ed, .inl (cO, 10, .inr (.inr (.inr (.inr f)))))] ++ fz) ∧ EX em aK aV (va_A ([(x, .inr (14, [.ref ed, .int 10, .int mo])), (ed, .inl (cO, 10, .inr (.inr (.inr (.inr f)))))] ++ fz) sz) U U.heap)) (va_Qr (fun (u : Unit) => True) (fun u ra t => va_P (dC, dI) vwCl ([(x, .inr (14, [.ref ra, .int 10, .int mo])), (ra, .inl (cO, 15, .inr (.inr (.inr (.inr (va_cpy f (fun _ => none) 0 0 10))))))] ++ fz) t.heap ∧ va_K (dC, dI) vwCl [(cO, .object "java/lang/Object")] t ∧ va_D (va_A ([(x, .inr (14, [.ref ed, .int 10, .int mo])), (ed, .inl (cO, 10, .inr (.inr (.inr (.inr f)))))] ++ fz) sz) ([(x, .inr (14, [.ref ra, .int 10, .int mo])), (ra, .inl (cO, 15, .inr (.inr (.inr (.inr (va_cpy f (fun _ => none) 0 0 10))))))] ++ fz)) (va_A ([(x, .inr (14, [.ref ed, .int 10, .int mo])), (ed, .inl (cO, 10, .inr (.inr (.inr (.inr f)))))] ++ fz) sz)) 1 15 (va_A ([(x, .inr (14, [.ref ed, .int 10, .int mo])), (ed, .inl (cO, 10, .inr (.inr (.inr (.inr f)))))] ++ fz) sz) := by
  refine Met.ofW (cc := c_AL_grow2) (maxL := 4) (ret := (some (.array (.object "java/lang/Object")))) (by decide) rfl ?_
  intro p e s m args below meth c s₁ B hml hv
  obtain ⟨rfl, hsz, hP, hK, hD0, hE⟩ := hv
  have hx := B.exec
  have hb := B.bytes
  have hr := B.returns
  have hts := atoms_spec (ws := ws_AL_grow2) B.pre
  have htb := fun w (h : w ∈ TBL) => hts w (List.mem_cons_of_mem _ h)
  have hown : s.vm.findClass R_AL = some m.cls := findClass_of_methodNamed B.named
  have hlocks := B.notSynchronized
  subst hsz
  have hD := hD0.self (sz := s.heap.size)
  generalize hAe : va_A ([(x, .inr (14, [.ref ed, .int 10, .int mo])), (ed, .inl (cO, 10, .inr (.inr (.inr (.inr f)))))] ++ fz) s.heap.size = A at hD hE ⊢
  have hA : ∀ q : Nat, s.heap.size ≤ q → A q := fun q h => by rw [← hAe]; exact Or.inr h
  have hS : va_S A s.heap s.heap [] := va_S.rf
  have hP : va_P (dC, dI) vwCl ([(x, .inr (14, [.ref ed, .int 10, .int mo])), (ed, .inl (cO, 10, .inr (.inr (.inr (.inr f)))))] ++ fz) s.heap := hP
  have hl := lv_entry ([.ref x, .int 11]) (n := 4) (Nat.le_of_ble_eq_true rfl)
  rw [lg_entry_eq]
  generalize (lg_sl ([.ref x, .int 11]) ++ List.replicate (4 - (lg_sl ([.ref x, .int 11])).length) Slot.unset).toArray = ls at hl ⊢
  have hl : lv_has ls 4 [(0, .ref x), (1, .int 11)] := hl
  refine lv_aload_n hx hb d_AL_grow2_0 rfl (lv_at hl 0 rfl) ?_
  refine va_get (D := (dC, dI)) (ci := 14) (v := .ref ed) (C := R_AL) (T := T_AL) (N := 3) hx hb htb in_AL hown hK hP 0 rfl rfl 0 (by decide) (htb _ m_87) (fun _ h9 => h9) rfl d_AL_grow2_1 ?_
  refine va_alen (v := 10) hx hb hK hP 1 0 rfl rfl rfl d_AL_grow2_4 ?_
  refine lv_istore_n hx hb d_AL_grow2_5 rfl hl (by decide) rfl (fun ls hl => ?_)
  have hl : lv_has ls 4 [(2, .int 10), (0, .ref x), (1, .int 11)] := hl
  refine lv_iload_n hx hb d_AL_grow2_6 rfl (lv_at hl 0 rfl) ?_
  refine lv_if_gt (tgt := 20) hx hb d_AL_grow2_7 rfl (fun _ => ?_) (fun h9 => absurd (by decide) h9)
  refine lv_iload_n hx hb d_AL_grow2_20 rfl (lv_at hl 0 rfl) ?_
  refine lv_iload_n hx hb d_AL_grow2_21 rfl (lv_at hl 2 rfl) ?_
  refine lv_iload_n hx hb d_AL_grow2_22 rfl (lv_at hl 0 rfl) ?_
  refine lv_isub hx hb d_AL_grow2_23 ?_
  refine W.eq (congrArg (fun z => F0 m 24 ls (.int z :: [.int 10])) (by decide : ((11 : Int32) - 10) = 1)) ?_
  refine lv_iload_n hx hb d_AL_grow2_24 rfl (lv_at hl 0 rfl) ?_
  refine lv_iconst (v := 1) hx hb d_AL_grow2_25 (by decide) ?_
  refine lv_ishr hx hb d_AL_grow2_26 ?_
  refine W.eq (congrArg (fun z => F0 m 27 ls (.int z :: [.int 1, .int 10])) (by decide : ((10 : Int32) >>> ((1 : Int32) &&& 31)) = 5)) ?_
  have hPc : va_P (dC, dI) vwCl [] _ := hP.sub (ws' := []) [] rfl
  have hKc := hK.sub (tys' := []) [] rfl
  refine vp_callSi (W.runS (As := [.int (nI 10), .int (nI 1), .int (nI 5)]) (rest := []) ⟨hx, hb, hml, hown, htb⟩ (q_AS_newLength l dC dI 10 1 5 (by decide) (by decide) (by decide) (by decide)) (va_cwS 3 htb (g_S (fun _ h => h) m_210 m_538 m_209 m_12) rfl rfl rfl (by decide +kernel) ⟨Nat.le_of_ble_eq_true rfl, Nat.le_of_ble_eq_true rfl⟩) ⟨fun a U g mk q => by obtain ⟨q0, qP, qK⟩ := q; exact ⟨q0, qP, va_K.moved (u := U) (U := U.calling g mk a) (Vm.Alike.refl U.vm) qK⟩, fun U hU hW => ⟨rfl, by rw [hU]; exact hPc, va_K.moved hW.alike hKc⟩⟩ rfl rfl hl.1 rfl (lv_room (Nat.le_of_ble_eq_true rfl)) d_AL_grow2_27 ⟨Nat.le_of_ble_eq_true rfl, Nat.le_of_ble_eq_true rfl⟩) (fun r1 hw2 => ?_)
  have hw2 : r1 = nI (10 + Nat.max 1 5) := hw2
  obtain rfl : r1 = (15 : Int32) := hw2.trans (by decide)
  refine lv_istore_n hx hb d_AL_grow2_30 rfl hl (by decide) rfl (fun ls hl => ?_)
  have hl : lv_has ls 4 [(3, .int 15), (2, .int 10), (0, .ref x), (1, .int 11)] := hl
  refine lv_aload_n hx hb d_AL_grow2_31 rfl (lv_at hl 2 rfl) ?_
  refine lv_aload_n hx hb d_AL_grow2_32 rfl (lv_at hl 2 rfl) ?_
  refine va_get (D := (dC, dI)) (ci := 14) (v := .ref ed) (C := R_AL) (T := T_AL) (N := 3) hx hb htb in_AL hown hK hP 0 rfl rfl 0 (by decide) (htb _ m_87) (fun _ h9 => h9) rfl d_AL_grow2_33 ?_
  refine lv_iload_n hx hb d_AL_grow2_36 rfl (lv_at hl 0 rfl) ?_
  have hPc := zz_pickP (pre := [(x, .inr (14, [.ref ed, .int 10, .int mo])), (ed, .inl (cO, 10, .inr (.inr (.inr (.inr f)))))]) (fz := fz) (wc := [(ed, .inl (cO, 10, .inr (.inr (.inr (.inr f)))))]) hP [1] rfl
  have hDc := zz_pickD (pre := [(x, .inr (14, [.ref ed, .int 10, .int mo])), (ed, .inl (cO, 10, .inr (.inr (.inr (.inr f)))))]) (fz := fz) (wc := [(ed, .inl (cO, 10, .inr (.inr (.inr (.inr f)))))]) hD [1] (by decide) rfl
  have hFc := zz_free (pre := [(x, .inr (14, [.ref ed, .int 10, .int mo])), (ed, .inl (cO, 10, .inr (.inr (.inr (.inr f)))))]) (fz := fz) (wc := [(ed, .inl (cO, 10, .inr (.inr (.inr (.inr f)))))]) hD hS hA [1] rfl
  have hKc := hK.sub (tys' := [(cO, .object "java/lang/Object")]) [0] rfl
  refine va_callr (va_runS (As := [.ref ed, .int 15]) (rest := [.ref x]) ⟨hx, hb, hml, hown, htb⟩ (k_AR_copyOf2_10 l dC dI _ ed cO f ci em aK aV fz hci hel) (va_cwS 2 htb (g_S (fun _ h => h) m_541 m_539 m_540 m_14) rfl rfl rfl (by decide +kernel) ⟨Nat.le_of_ble_eq_true rfl, Nat.le_of_ble_eq_true rfl⟩) ⟨fun a U g mk q => by obtain ⟨q0, q1, qP, qK, qD, z0⟩ := q; exact ⟨q0, q1, qP, va_K.moved (u := U) (U := U.calling g mk a) (Vm.Alike.refl U.vm) qK, qD, EX.same (U := U) (U' := U.calling g mk a) rfl z0⟩, fun U hU hW => ⟨rfl, by rw [hU], by rw [hU]; exact hPc, va_K.moved hW.alike hKc, hDc.weaken (fun _ _ _ _ => trivial), by rw [hU]; exact EX.warm hW ((hE.kept (fun a h1 h2 => hS.2.1 a h1 h2)).narrow hFc)⟩⟩ rfl rfl hl.1 rfl (lv_room (Nat.le_of_ble_eq_true rfl)) d_AL_grow2_37 ⟨Nat.le_of_ble_eq_true rfl, Nat.le_of_ble_eq_true rfl⟩) hS (fun q _ h => hFc q h) hFc (fun u3 ra6 t H1 locs ht hvm hw5 hB hz1 hk1 hS => ?_)
  obtain ⟨hP1, hK1, hD1⟩ := hB
  rw [ht] at hP1
  have hK1 := va_K.moved hvm.symm hK1
  have hw5 : True := hw5
  obtain ⟨hP, hD⟩ := zz_join (pre := [(x, .inr (14, [.ref ed, .int 10, .int mo])), (ed, .inl (cO, 10, .inr (.inr (.inr (.inr f)))))]) (fz := fz) (wc := [(ed, .inl (cO, 10, .inr (.inr (.inr (.inr f)))))]) (wr := [(x, .inr (14, [.ref ed, .int 10, .int mo]))]) (w1 := ([(ed, .inl (cO, 10, .inr (.inr (.inr (.inr f))))), (ra6, .inl (cO, 15, .inr (.inr (.inr (.inr (va_cpy f (fun _ => none) 0 0 10))))))] ++ fz)) hP hD [1] [0] rfl rfl (by decide) (by decide) hk1 hFc hP1 hD1
  have hK := (hK.sub (tys' := []) [] rfl).app hK1
  generalize H1 = H at hP hS ⊢
  have hP : va_P (dC, dI) vwCl ([(x, .inr (14, [.ref ed, .int 10, .int mo])), (ed, .inl (cO, 10, .inr (.inr (.inr (.inr f))))), (ra6, .inl (cO, 15, .inr (.inr (.inr (.inr (va_cpy f (fun _ => none) 0 0 10))))))] ++ fz) H := hP
  have hD : va_D A ([(x, .inr (14, [.ref ed, .int 10, .int mo])), (ed, .inl (cO, 10, .inr (.inr (.inr (.inr f))))), (ra6, .inl (cO, 15, .inr (.inr (.inr (.inr (va_cpy f (fun _ => none) 0 0 10))))))] ++ fz) := hD
  have hK : va_K (dC, dI) vwCl [(cO, .object "java/lang/Object")] s := hK
  refine W.widen (k := 1) (n := 15) (Nat.le_of_ble_eq_true rfl) (Nat.le_of_ble_eq_true rfl) ?_
  refine lv_dup_x1 hx hb d_AL_grow2_40 rfl rfl ?_
  refine va_put (D := (dC, dI)) (ci := 14) (v := .ref ra6) (ty := (.array (.object "java/lang/Object"))) (C := R_AL) (T := T_AL) (N := 3) hx hb htb in_AL ty_AL ty_AL_ok nm_AL hown hK hP hD hS 0 rfl rfl 0 (by decide) (htb _ m_87) (fun _ h9 => h9) rfl (by decide +kernel) rfl rfl (Nat.le_of_ble_eq_true rfl) d_AL_grow2_41 (fun H locs hP hD hS => ?_)
  have hP : va_P (dC, dI) vwCl ([(x, .inr (14, [.ref ra6, .int 10, .int mo])), (ed, .inl (cO, 10, .inr (.inr (.inr (.inr f))))), (ra6, .inl (cO, 15, .inr (.inr (.inr (.inr (va_cpy f (fun _ => none) 0 0 10))))))] ++ fz) H := hP
  have hD : va_D A ([(x, .inr (14, [.ref ra6, .int 10, .int mo])), (ed, .inl (cO, 10, .inr (.inr (.inr (.inr f))))), (ra6, .inl (cO, 15, .inr (.inr (.inr (.inr (va_cpy f (fun _ => none) 0 0 10))))))] ++ fz) := hD
  have hP9 := zz_pickP (pre := [(x, .inr (14, [.ref ra6, .int 10, .int mo])), (ed, .inl (cO, 10, .inr (.inr (.inr (.inr f))))), (ra6, .inl (cO, 15, .inr (.inr (.inr (.inr (va_cpy f (fun _ => none) 0 0 10))))))]) (fz := fz) (wc := [(x, .inr (14, [.ref ra6, .int 10, .int mo])), (ra6, .inl (cO, 15, .inr (.inr (.inr (.inr (va_cpy f (fun _ => none) 0 0 10))))))]) hP [0, 2] rfl
  have hD9 := zz_pickD (pre := [(x, .inr (14, [.ref ra6, .int 10, .int mo])), (ed, .inl (cO, 10, .inr (.inr (.inr (.inr f))))), (ra6, .inl (cO, 15, .inr (.inr (.inr (.inr (va_cpy f (fun _ => none) 0 0 10))))))]) (fz := fz) (wc := [(x, .inr (14, [.ref ra6, .int 10, .int mo])), (ra6, .inl (cO, 15, .inr (.inr (.inr (.inr (va_cpy f (fun _ => none) 0 0 10))))))]) hD [0, 2] (by decide) rfl
  have hK9 := hK.sub (tys' := [(cO, .object "java/lang/Object")]) [0] rfl
  refine W.widen (k := 1) (n := 15) (Nat.le_of_ble_eq_true rfl) (Nat.le_of_ble_eq_true rfl) ?_
  exact W.aret (v := .ref ra6) hx hb hr (Or.inr ⟨_, rfl⟩) (Or.inr ⟨_, rfl⟩) (fun t ht hW => ⟨⟨(), ra6, rfl, trivial, ⟨by rw [ht]; exact hP9, va_K.moved hW.alike hK9, hD9⟩⟩, hS.F ht⟩) hS.2.2 d_AL_grow2_44
set_option maxHeartbeats 1000000 in
set_option maxRecDepth 100000 in
/-- grow() -/
theorem k_AL_grow_10 (l : Launch) (dC : Nat → ClassId) (dI : Nat → Nat → Nat) (sz : Nat) (x : Nat) (mo : Int32) (ed : Nat) (cO : ClassId) (f : Nat → Option Nat) (ci : Nat) (em : Nat) (aK : Nat → Nat) (aV : Nat → Nat) (fz : va_W) (hci : Oci ci) (hel : ∀ i, i < 10 → ∀ y, f i = some y → Vin ci fz y) : Met l y_AL_grow ws_AL_grow ({ frames := 4, cells := 1, slots := 15, locals := 107 }) (va_Pc [.ref x] (fun U => U.heap.size = sz ∧ va_P (dC, dI) vwCl ([(x, .inr (14, [.ref ed, .int 10, .int mo])), (ed, .inl (cO, 10, .inr (.inr (.inr (.inr f)))))] ++ fz) U.heap ∧ va_K (dC, dI) vwCl [(cO, .object "java/lang/Object")] U ∧ va_D (fun _ => True) ([(x, .inr (14, [.ref ed, .int 10, .int mo])), (ed, .inl (cO, 10, .inr (.inr (.inr (.inr f)))))] ++ fz) ∧ EX em aK aV (va_A ([(x, .inr (14, [.ref ed, .int 10, .int mo])), (ed, .inl (cO, 10, .inr (.inr (.inr (.inr f)))))] ++ fz) sz) U U.heap)) (va_Qr (fun (u : Unit) => True) (fun u ra t => va_P (dC, dI) vwCl ([(x, .inr (14, [.ref ra, .int 10, .int mo])), (ra, .inl (cO, 15, .inr (.inr (.inr (.inr (va_cpy f (fun _ => none) 0 0 10))))))] ++ fz) t.heap ∧ va_K (dC, dI) vwCl [(cO, .object "java/lang/Object")] t ∧ va_D (va_A ([(x, .inr (14, [.ref ed, .int 10, .int mo])), (ed, .inl (cO, 10, .inr (.inr (.inr (.inr f)))))] ++ fz) sz) ([(x, .inr (14, [.ref ra, .int 10, .int mo])), (ra, .inl (cO, 15, .inr (.inr (.inr (.inr (va_cpy f (fun _ => none) 0 0 10))))))] ++ fz)) (va_A ([(x, .inr (14, [.ref ed, .int 10, .int mo])), (ed, .inl (cO, 10, .inr (.inr (.inr (.inr f)))))] ++ fz) sz)) 1 15 (va_A ([(x, .inr (14, [.ref ed, .int 10, .int mo])), (ed, .inl (cO, 10, .inr (.inr (.inr (.inr f)))))] ++ fz) sz) := by
  refine Met.ofW (cc := c_AL_grow) (maxL := 1) (ret := (some (.array (.object "java/lang/Object")))) (by decide) rfl ?_
  intro p e s m args below meth c s₁ B hml hv
  obtain ⟨rfl, hsz, hP, hK, hD0, hE⟩ := hv
  have hx := B.exec
  have hb := B.bytes
  have hr := B.returns
  have hts := atoms_spec (ws := ws_AL_grow) B.pre
  have htb := fun w (h : w ∈ TBL) => hts w (List.mem_cons_of_mem _ h)
  have hown : s.vm.findClass R_AL = some m.cls := findClass_of_methodNamed B.named
  have hlocks := B.notSynchronized
  subst hsz
  have hD := hD0.self (sz := s.heap.size)
  generalize hAe : va_A ([(x, .inr (14, [.ref ed, .int 10, .int mo])), (ed, .inl (cO, 10, .inr (.inr (.inr (.inr f)))))] ++ fz) s.heap.size = A at hD hE ⊢
  have hA : ∀ q : Nat, s.heap.size ≤ q → A q := fun q h => by rw [← hAe]; exact Or.inr h
  have hS : va_S A s.heap s.heap [] := va_S.rf
  have hP : va_P (dC, dI) vwCl ([(x, .inr (14, [.ref ed, .int 10, .int mo])), (ed, .inl (cO, 10, .inr (.inr (.inr (.inr f)))))] ++ fz) s.heap := hP
  have hl := lv_entry ([.ref x]) (n := 1) (Nat.le_of_ble_eq_true rfl)
  rw [lg_entry_eq]
  generalize (lg_sl ([.ref x]) ++ List.replicate (1 - (lg_sl ([.ref x])).length) Slot.unset).toArray = ls at hl ⊢
  have hl : lv_has ls 1 [(0, .ref x)] := hl
  refine lv_aload_n hx hb d_AL_grow_0 rfl (lv_at hl 0 rfl) ?_
  refine lv_aload_n hx hb d_AL_grow_1 rfl (lv_at hl 0 rfl) ?_
  refine va_get (D := (dC, dI)) (ci := 14) (v := .int 10) (C := R_AL) (T := T_AL) (N := 3) hx hb htb in_AL hown hK hP 0 rfl rfl 1 (by decide) (htb _ m_88) (fun _ h9 => h9) rfl d_AL_grow_2 ?_
  refine lv_iconst (v := 1) hx hb d_AL_grow_5 (by decide) ?_
  refine lv_iadd hx hb d_AL_grow_6 ?_
  refine W.eq (congrArg (fun z => F0 m 7 ls (.int z :: [.ref x])) (by decide : ((10 : Int32) + 1) = 11)) ?_
  have hPc := zz_pickP (pre := [(x, .inr (14, [.ref ed, .int 10, .int mo])), (ed, .inl (cO, 10, .inr (.inr (.inr (.inr f)))))]) (fz := fz) (wc := [(x, .inr (14, [.ref ed, .int 10, .int mo])), (ed, .inl (cO, 10, .inr (.inr (.inr (.inr f)))))]) hP [0, 1] rfl
  have hDc := zz_pickD (pre := [(x, .inr (14, [.ref ed, .int 10, .int mo])), (ed, .inl (cO, 10, .inr (.inr (.inr (.inr f)))))]) (fz := fz) (wc := [(x, .inr (14, [.ref ed, .int 10, .int mo])), (ed, .inl (cO, 10, .inr (.inr (.inr (.inr f)))))]) hD [0, 1] (by decide) rfl
  have hFc := zz_free (pre := [(x, .inr (14, [.ref ed, .int 10, .int mo])), (ed, .inl (cO, 10, .inr (.inr (.inr (.inr f)))))]) (fz := fz) (wc := [(x, .inr (14, [.ref ed, .int 10, .int mo])), (ed, .inl (cO, 10, .inr (.inr (.inr (.inr f)))))]) hD hS hA [0, 1] rfl
  have hKc := hK.sub (tys' := [(cO, .object "java/lang/Object")]) [0] rfl
  refine va_callr (va_runV (As := [.int 11]) (rest := []) ⟨hx, hb, hml, hown, htb⟩ (k_AL_grow2_10 l dC dI _ x mo ed cO f ci em aK aV fz hci hel) (cwV 1 htb (g_V (fun _ h => h) m_537 m_534 m_536 m_1632 m_8) rfl rfl rfl (by decide +kernel) ⟨Nat.le_of_ble_eq_true rfl, Nat.le_of_ble_eq_true rfl⟩) ⟨fun a U g mk q => by obtain ⟨q0, q1, qP, qK, qD, z0⟩ := q; exact ⟨q0, q1, qP, va_K.moved (u := U) (U := U.calling g mk a) (Vm.Alike.refl U.vm) qK, qD, EX.same (U := U) (U' := U.calling g mk a) rfl z0⟩, va_recv hK hP (ci := 14) rfl (q0 := 0) rfl, fun U hU hW => ⟨rfl, by rw [hU], by rw [hU]; exact hPc, va_K.moved hW.alike hKc, hDc.weaken (fun _ _ _ _ => trivial), by rw [hU]; exact EX.warm hW ((hE.kept (fun a h1 h2 => hS.2.1 a h1 h2)).narrow hFc)⟩⟩ rfl rfl hl.1 rfl (lv_room (Nat.le_of_ble_eq_true rfl)) d_AL_grow_7 ⟨Nat.le_of_ble_eq_true rfl, Nat.le_of_ble_eq_true rfl⟩) hS (fun q _ h => hFc q h) hFc (fun u1 ra4 t H1 locs ht hvm hw3 hB hz1 hk1 hS => ?_)
  obtain ⟨hP1, hK1, hD1⟩ := hB
  rw [ht] at hP1
  have hK1 := va_K.moved hvm.symm hK1
  have hw3 : True := hw3
  obtain ⟨hP, hD⟩ := zz_join (pre := [(x, .inr (14, [.ref ed, .int 10, .int mo])), (ed, .inl (cO, 10, .inr (.inr (.inr (.inr f)))))]) (fz := fz) (wc := [(x, .inr (14, [.ref ed, .int 10, .int mo])), (ed, .inl (cO, 10, .inr (.inr (.inr (.inr f)))))]) (wr := []) (w1 := ([(x, .inr (14, [.ref ra4, .int 10, .int mo])), (ra4, .inl (cO, 15, .inr (.inr (.inr (.inr (va_cpy f (fun _ => none) 0 0 10))))))] ++ fz)) hP hD [0, 1] [] rfl rfl (by decide) (by decide) hk1 hFc hP1 hD1
  have hK := (hK.sub (tys' := []) [] rfl).app hK1
  generalize H1 = H at hP hS ⊢
  have hP : va_P (dC, dI) vwCl ([(x, .inr (14, [.ref ra4, .int 10, .int mo])), (ra4, .inl (cO, 15, .inr (.inr (.inr (.inr (va_cpy f (fun _ => none) 0 0 10))))))] ++ fz) H := hP
  have hD : va_D A ([(x, .inr (14, [.ref ra4, .int 10, .int mo])), (ra4, .inl (cO, 15, .inr (.inr (.inr (.inr (va_cpy f (fun _ => none) 0 0 10))))))] ++ fz) := hD
  have hK : va_K (dC, dI) vwCl [(cO, .object "java/lang/Object")] s := hK
  refine W.widen (k := 1) (n := 15) (Nat.le_of_ble_eq_true rfl) (Nat.le_of_ble_eq_true rfl) ?_
  have hP9 := zz_pickP (pre := [(x, .inr (14, [.ref ra4, .int 10, .int mo])), (ra4, .inl (cO, 15, .inr (.inr (.inr (.inr (va_cpy f (fun _ => none) 0 0 10))))))]) (fz := fz) (wc := [(x, .inr (14, [.ref ra4, .int 10, .int mo])), (ra4, .inl (cO, 15, .inr (.inr (.inr (.inr (va_cpy f (fun _ => none) 0 0 10))))))]) hP [0, 1] rfl
  have hD9 := zz_pickD (pre := [(x, .inr (14, [.ref ra4, .int 10, .int mo])), (ra4, .inl (cO, 15, .inr (.inr (.inr (.inr (va_cpy f (fun _ => none) 0 0 10))))))]) (fz := fz) (wc := [(x, .inr (14, [.ref ra4, .int 10, .int mo])), (ra4, .inl (cO, 15, .inr (.inr (.inr (.inr (va_cpy f (fun _ => none) 0 0 10))))))]) hD [0, 1] (by decide) rfl
  have hK9 := hK.sub (tys' := [(cO, .object "java/lang/Object")]) [0] rfl
  refine W.widen (k := 1) (n := 15) (Nat.le_of_ble_eq_true rfl) (Nat.le_of_ble_eq_true rfl) ?_
  exact W.aret (v := .ref ra4) hx hb hr (Or.inr ⟨_, rfl⟩) (Or.inr ⟨_, rfl⟩) (fun t ht hW => ⟨⟨(), ra4, rfl, trivial, ⟨by rw [ht]; exact hP9, va_K.moved hW.alike hK9, hD9⟩⟩, hS.F ht⟩) hS.2.2 d_AL_grow_10
set_option maxHeartbeats 1000000 in
set_option maxRecDepth 100000 in
/-- grow(16) -/
theorem k_AL_grow2_15 (l : Launch) (dC : Nat → ClassId) (dI : Nat → Nat → Nat) (sz : Nat) (x : Nat) (mo : Int32) (ed : Nat) (cO : ClassId) (f : Nat → Option Nat) (ci : Nat) (em : Nat) (aK : Nat → Nat) (aV : Nat → Nat) (fz : va_W) (hci : Oci ci) (hel : ∀ i, i < 15 → ∀ y, f i = some y → Vin ci fz y) : Met l y_AL_grow2 ws_AL_grow2 ({ frames := 3, cells := 1, slots := 22, locals := 84 }) (va_Pc [.ref x, .int 16] (fun U => U.heap.size = sz ∧ va_P (dC, dI) vwCl ([(x, .inr (14, [.ref ed, .int 15, .int mo])), (ed, .inl (cO, 15, .inr (.inr (.inr (.inr f)))))] ++ fz) U.heap ∧ va_K (dC, dI) vwCl [(cO, .object "java/lang/Object")] U ∧ va_D (fun _ => True) ([(x, .inr (14, [.ref ed, .int 15, .int mo])), (ed, .inl (cO, 15, .inr (.inr (.inr (.inr f)))))] ++ fz) ∧ EX em aK aV (va_A ([(x, .inr (14, [.ref ed, .int 15, .int mo])), (ed, .inl (cO, 15, .inr (.inr (.inr (.inr f)))))] ++ fz) sz) U U.heap)) (va_Qr (fun (u : Unit) => True) (fun u ra t => va_P (dC, dI) vwCl ([(x, .inr (14, [.ref ra, .int 15, .int mo])), (ra, .inl (cO, 22, .inr (.inr (.inr (.inr (va_cpy f (fun _ => none) 0 0 15))))))] ++ fz) t.heap ∧ va_K (dC, dI) vwCl [(cO, .object "java/lang/Object")] t ∧ va_D (va_A ([(x, .inr (14, [.ref ed, .int 15, .int mo])), (ed, .inl (cO, 15, .inr (.inr (.inr (.inr f)))))] ++ fz) sz) ([(x, .inr (14, [.ref ra, .int 15, .int mo])), (ra, .inl (cO, 22, .inr (.inr (.inr (.inr (va_cpy f (fun _ => none) 0 0 15))))))] ++ fz)) (va_A ([(x, .inr (14, [.ref ed, .int 15, .int mo])), (ed, .inl (cO, 15, .inr (.inr (.inr (.inr f)))))] ++ fz) sz)) 1 22 (va_A ([(x, .inr (14, [.ref ed, .int 15, .int mo])), (ed, .inl (cO, 15, .inr (.inr (.inr (.inr f)))))] ++ fz) sz) := by
  refine Met.ofW (cc := c_AL_grow2) (maxL := 4) (ret := (some (.array (.object "java/lang/Object")))) (by decide) rfl ?_
  intro p e s m args below meth c s₁ B hml hv
  obtain ⟨rfl, hsz, hP, hK, hD0, hE⟩ := hv
  have hx := B.exec
  have hb := B.bytes
  have hr := B.returns
  have hts := atoms_spec (ws := ws_AL_grow2) B.pre
  have htb := fun w (h : w ∈ TBL) => hts w (List.mem_cons_of_mem _ h)
  have hown : s.vm.findClass R_AL = some m.cls := findClass_of_methodNamed B.named
  have hlocks := B.notSynchronized
  subst hsz
  have hD := hD0.self (sz := s.heap.size)
  generalize hAe : va_A ([(x, .inr (14, [.ref ed, .int 15, .int mo])), (ed, .inl (cO, 15, .inr (.inr (.inr (.inr f)))))] ++ fz) s.heap.size = A at hD hE ⊢
  have hA : ∀ q : Nat, s.heap.size ≤ q → A q := fun q h => by rw [← hAe]; exact Or.inr h
  have hS : va_S A s.heap s.heap [] := va_S.rf
  have hP : va_P (dC, dI) vwCl ([(x, .inr (14, [.ref ed, .int 15, .int mo])), (ed, .inl (cO, 15, .inr (.inr (.inr (.inr f)))))] ++ fz) s.heap := hP
  have hl := lv_entry ([.ref x, .int 16]) (n := 4) (Nat.le_of_ble_eq_true rfl)
  rw [lg_entry_eq]
  generalize (lg_sl ([.ref x, .int 16]) ++ List.replicate (4 - (lg_sl ([.ref x, .int 16])).length) Slot.unset).toArray = ls at hl ⊢
  have hl : lv_has ls 4 [(0, .ref x), (1, .int 16)] := hl
  refine lv_aload_n hx hb d_AL_grow2_0 rfl (lv_at hl 0 rfl) ?_
  refine va_get (D := (dC, dI)) (ci := 14) (v := .ref ed) (C := R_AL) (T := T_AL) (N := 3) hx hb htb in_AL hown hK hP 0 rfl rfl 0 (by decide) (htb _ m_87) (fun _ h9 => h9) rfl d_AL_grow2_1 ?_
  refine va_alen (v := 15) hx hb hK hP 1 0 rfl rfl rfl d_AL_grow2_4 ?_
  refine lv_istore_n hx hb d_AL_grow2_5 rfl hl (by decide) rfl (fun ls hl => ?_)
  have hl : lv_has ls 4 [(2, .int 15), (0, .ref x), (1, .int 16)] := hl
  refine lv_iload_n hx hb d_AL_grow2_6 rfl (lv_at hl 0 rfl) ?_
  refine lv_if_gt (tgt := 20) hx hb d_AL_grow2_7 rfl (fun _ => ?_) (fun h9 => absurd (by decide) h9)
  refine lv_iload_n hx hb d_AL_grow2_20 rfl (lv_at hl 0 rfl) ?_
  refine lv_iload_n hx hb d_AL_grow2_21 rfl (lv_at hl 2 rfl) ?_
  refine lv_iload_n hx hb d_AL_grow2_22 rfl (lv_at hl 0 rfl) ?_
  refine lv_isub hx hb d_AL_grow2_23 ?_
  refine W.eq (congrArg (fun z => F0 m 24 ls (.int z :: [.int 15])) (by decide : ((16 : Int32) - 15) = 1)) ?_
  refine lv_iload_n hx hb d_AL_grow2_24 rfl (lv_at hl 0 rfl) ?_
  refine lv_iconst (v := 1) hx hb d_AL_grow2_25 (by decide) ?_
  refine lv_ishr hx hb d_AL_grow2_26 ?_
  refine W.eq (congrArg (fun z => F0 m 27 ls (.int z :: [.int 1, .int 15])) (by decide : ((15 : Int32) >>> ((1 : Int32) &&& 31)) = 7)) ?_
  have hPc : va_P (dC, dI) vwCl [] _ := hP.sub (ws' := []) [] rfl
  have hKc := hK.sub (tys' := []) [] rfl
  refine vp_callSi (W.runS (As := [.int (nI 15), .int (nI 1), .int (nI 7)]) (rest := []) ⟨hx, hb, hml, hown, htb⟩ (q_AS_newLength l dC dI 15 1 7 (by decide) (by decide) (by decide) (by decide)) (va_cwS 3 htb (g_S (fun _ h => h) m_210 m_538 m_209 m_12) rfl rfl rfl (by decide +kernel) ⟨Nat.le_of_ble_eq_true rfl, Nat.le_of_ble_eq_true rfl⟩) ⟨fun a U g mk q => by obtain ⟨q0, qP, qK⟩ := q; exact ⟨q0, qP, va_K.moved (u := U) (U := U.calling g mk a) (Vm.Alike.refl U.vm) qK⟩, fun U hU hW => ⟨rfl, by rw [hU]; exact hPc, va_K.moved hW.alike hKc⟩⟩ rfl rfl hl.1 rfl (lv_room (Nat.le_of_ble_eq_true rfl)) d_AL_grow2_27 ⟨Nat.le_of_ble_eq_true rfl, Nat.le_of_ble_eq_true rfl⟩) (fun r1 hw2 => ?_)
  have hw2 : r1 = nI (15 + Nat.max 1 7) := hw2
  obtain rfl : r1 = (22 : Int32) := hw2.trans (by decide)
  refine lv_istore_n hx hb d_AL_grow2_30 rfl hl (by decide) rfl (fun ls hl => ?_)
  have hl : lv_has ls 4 [(3, .int 22), (2, .int 15), (0, .ref x), (1, .int 16)] := hl
  refine lv_aload_n hx hb d_AL_grow2_31 rfl (lv_at hl 2 rfl) ?_
  refine lv_aload_n hx hb d_AL_grow2_32 rfl (lv_at hl 2 rfl) ?_
  refine va_get (D := (dC, dI)) (ci := 14) (v := .ref ed) (C := R_AL) (T := T_AL) (N := 3) hx hb htb in_AL hown hK hP 0 rfl rfl 0 (by decide) (htb _ m_87) (fun _ h9 => h9) rfl d_AL_grow2_33 ?_
  refine lv_iload_n hx hb d_AL_grow2_36 rfl (lv_at hl 0 rfl) ?_
  have hPc := zz_pickP (pre := [(x, .inr (14, [.ref ed, .int 15, .int mo])), (ed, .inl (cO, 15, .inr (.inr (.inr (.inr f)))))]) (fz := fz) (wc := [(ed, .inl (cO, 15, .inr (.inr (.inr (.inr f)))))]) hP [1] rfl
  have hDc := zz_pickD (pre := [(x, .inr (14, [.ref ed, .int 15, .int mo])), (ed, .inl (cO, 15, .inr (.inr (.inr (.inr f)))))]) (fz := fz) (wc := [(ed, .inl (cO, 15, .inr (.inr (.inr (.inr f)))))]) hD [1] (by decide) rfl
  have hFc := zz_free (pre := [(x, .inr (14, [.ref ed, .int 15, .int mo])), (ed, .inl (cO, 15, .inr (.inr (.inr (.inr f)))))]) (fz := fz) (wc := [(ed, .inl (cO, 15, .inr (.inr (.inr (.inr f)))))]) hD hS hA [1] rfl
  have hKc := hK.sub (tys' := [(cO, .object "java/lang/Object")]) [0] rfl
  refine va_callr (va_runS (As := [.ref ed, .int 22]) (rest := [.ref x]) ⟨hx, hb, hml, hown, htb⟩ (k_AR_copyOf2_15 l dC dI _ ed cO f ci em aK aV fz hci hel) (va_cwS 2 htb (g_S (fun _ h => h) m_541 m_539 m_540 m_14) rfl rfl rfl (by decide +kernel) ⟨Nat.le_of_ble_eq_true rfl, Nat.le_of_ble_eq_true rfl⟩) ⟨fun a U g mk q => by obtain ⟨q0, q1, qP, qK, qD, z0⟩ := q; exact ⟨q0, q1, qP, va_K.moved (u := U) (U := U.calling g mk a) (Vm.Alike.refl U.vm) qK, qD, EX.same (U := U) (U' := U.calling g mk a) rfl z0⟩, fun U hU hW => ⟨rfl, by rw [hU], by rw [hU]; exact hPc, va_K.moved hW.alike hKc, hDc.weaken (fun _ _ _ _ => trivial), by rw [hU]; exact EX.warm hW ((hE.kept (fun a h1 h2 => hS.2.1 a h1 h2)).narrow hFc)⟩⟩ rfl rfl hl.1 rfl (lv_room (Nat.le_of_ble_eq_true rfl)) d_AL_grow2_37 ⟨Nat.le_of_ble_eq_true rfl, Nat.le_of_ble_eq_true rfl⟩) hS (fun q _ h => hFc q h) hFc (fun u3 ra6 t H1 locs ht hvm hw5 hB hz1 hk1 hS => ?_)
  obtain ⟨hP1, hK1, hD1⟩ := hB
  rw [ht] at hP1
  have hK1 := va_K.moved hvm.symm hK1
  have hw5 : True := hw5
  obtain ⟨hP, hD⟩ := zz_join (pre := [(x, .inr (14, [.ref ed, .int 15, .int mo])), (ed, .inl (cO, 15, .inr (.inr (.inr (.inr f)))))]) (fz := fz) (wc := [(ed, .inl (cO, 15, .inr (.inr (.inr (.inr f)))))]) (wr := [(x, .inr (14, [.ref ed, .int 15, .int mo]))]) (w1 := ([(ed, .inl (cO, 15, .inr (.inr (.inr (.inr f))))), (ra6, .inl (cO, 22, .inr (.inr (.inr (.inr (va_cpy f (fun _ => none) 0 0 15))))))] ++ fz)) hP hD [1] [0] rfl rfl (by decide) (by decide) hk1 hFc hP1 hD1
  have hK := (hK.sub (tys' := []) [] rfl).app hK1
  generalize H1 = H at hP hS ⊢
  have hP : va_P (dC, dI) vwCl ([(x, .inr (14, [.ref ed, .int 15, .int mo])), (ed, .inl (cO, 15, .inr (.inr (.inr (.inr f))))), (ra6, .inl (cO, 22, .inr (.inr (.inr (.inr (va_cpy f (fun _ => none) 0 0 15))))))] ++ fz) H := hP
  have hD : va_D A ([(x, .inr (14, [.ref ed, .int 15, .int mo])), (ed, .inl (cO, 15, .inr (.inr (.inr (.inr f))))), (ra6, .inl (cO, 22, .inr (.inr (.inr (.inr (va_cpy f (fun _ => none) 0 0 15))))))] ++ fz) := hD
  have hK : va_K (dC, dI) vwCl [(cO, .object "java/lang/Object")] s := hK
  refine W.widen (k := 1) (n := 22) (Nat.le_of_ble_eq_true rfl) (Nat.le_of_ble_eq_true rfl) ?_
  refine lv_dup_x1 hx hb d_AL_grow2_40 rfl rfl ?_
  refine va_put (D := (dC, dI)) (ci := 14) (v := .ref ra6) (ty := (.array (.object "java/lang/Object"))) (C := R_AL) (T := T_AL) (N := 3) hx hb htb in_AL ty_AL ty_AL_ok nm_AL hown hK hP hD hS 0 rfl rfl 0 (by decide) (htb _ m_87) (fun _ h9 => h9) rfl (by decide +kernel) rfl rfl (Nat.le_of_ble_eq_true rfl) d_AL_grow2_41 (fun H locs hP hD hS => ?_)
  have hP : va_P (dC, dI) vwCl ([(x, .inr (14, [.ref ra6, .int 15, .int mo])), (ed, .inl (cO, 15, .inr (.inr (.inr (.inr f))))), (ra6, .inl (cO, 22, .inr (.inr (.inr (.inr (va_cpy f (fun _ => none) 0 0 15))))))] ++ fz) H := hP
  have hD : va_D A ([(x, .inr (14, [.ref ra6, .int 15, .int mo])), (ed, .inl (cO, 15, .inr (.inr (.inr (.inr f))))), (ra6, .inl (cO, 22, .inr (.inr (.inr (.inr (va_cpy f (fun _ => none) 0 0 15))))))] ++ fz) := hD
  have hP9 := zz_pickP (pre := [(x, .inr (14, [.ref ra6, .int 15, .int mo])), (ed, .inl (cO, 15, .inr (.inr (.inr (.inr f))))), (ra6, .inl (cO, 22, .inr (.inr (.inr (.inr (va_cpy f (fun _ => none) 0 0 15))))))]) (fz := fz) (wc := [(x, .inr (14, [.ref ra6, .int 15, .int mo])), (ra6, .inl (cO, 22, .inr (.inr (.inr (.inr (va_cpy f (fun _ => none) 0 0 15))))))]) hP [0, 2] rfl
  have hD9 := zz_pickD (pre := [(x, .inr (14, [.ref ra6, .int 15, .int mo])), (ed, .inl (cO, 15, .inr (.inr (.inr (.inr f))))), (ra6, .inl (cO, 22, .inr (.inr (.inr (.inr (va_cpy f (fun _ => none) 0 0 15))))))]) (fz := fz) (wc := [(x, .inr (14, [.ref ra6, .int 15, .int mo])), (ra6, .inl (cO, 22, .inr (.inr (.inr (.inr (va_cpy f (fun _ => none) 0 0 15))))))]) hD [0, 2] (by decide) rfl
  have hK9 := hK.sub (tys' := [(cO, .object "java/lang/Object")]) [0] rfl
  refine W.widen (k := 1) (n := 22) (Nat.le_of_ble_eq_true rfl) (Nat.le_of_ble_eq_true rfl) ?_
  exact W.aret (v := .ref ra6) hx hb hr (Or.inr ⟨_, rfl⟩) (Or.inr ⟨_, rfl⟩) (fun t ht hW => ⟨⟨(), ra6, rfl, trivial, ⟨by rw [ht]; exact hP9, va_K.moved hW.alike hK9, hD9⟩⟩, hS.F ht⟩) hS.2.2 d_AL_grow2_44
set_option maxHeartbeats 1000000 in
set_option maxRecDepth 100000 in
/-- grow() -/
theorem k_AL_grow_15 (l : Launch) (dC : Nat → ClassId) (dI : Nat → Nat → Nat) (sz : Nat) (x : Nat) (mo : Int32) (ed : Nat) (cO : ClassId) (f : Nat → Option Nat) (ci : Nat) (em : Nat) (aK : Nat → Nat) (aV : Nat → Nat) (fz : va_W) (hci : Oci ci) (hel : ∀ i, i < 15 → ∀ y, f i = some y → Vin ci fz y) : Met l y_AL_grow ws_AL_grow ({ frames := 4, cells := 1, slots := 22, locals := 107 }) (va_Pc [.ref x] (fun U => U.heap.size = sz ∧ va_P (dC, dI) vwCl ([(x, .inr (14, [.ref ed, .int 15, .int mo])), (ed, .inl (cO, 15, .inr (.inr (.inr (.inr f)))))] ++ fz) U.heap ∧ va_K (dC, dI) vwCl [(cO, .object "java/lang/Object")] U ∧ va_D (fun _ => True) ([(x, .inr (14, [.ref ed, .int 15, .int mo])), (ed, .inl (cO, 15, .inr (.inr (.inr (.inr f)))))] ++ fz) ∧ EX em aK aV (va_A ([(x, .inr (14, [.ref ed, .int 15, .int mo])), (ed, .inl (cO, 15, .inr (.inr (.inr (.inr f)))))] ++ fz) sz) U U.heap)) (va_Qr (fun (u : Unit) => True) (fun u ra t => va_P (dC, dI) vwCl ([(x, .inr (14, [.ref ra, .int 15, .int mo])), (ra, .inl (cO, 22, .inr (.inr (.inr (.inr (va_cpy f (fun _ => none) 0 0 15))))))] ++ fz) t.heap ∧ va_K (dC, dI) vwCl [(cO, .object "java/lang/Object")] t ∧ va_D (va_A ([(x, .inr (14, [.ref ed, .int 15, .int mo])), (ed, .inl (cO, 15, .inr (.inr (.inr (.inr f)))))] ++ fz) sz) ([(x, .inr (14, [.ref ra, .int 15, .int mo])), (ra, .inl (cO, 22, .inr (.inr (.inr (.inr (va_cpy f (fun _ => none) 0 0 15))))))] ++ fz)) (va_A ([(x, .inr (14, [.ref ed, .int 15, .int mo])), (ed, .inl (cO, 15, .inr (.inr (.inr (.inr f)))))] ++ fz) sz)) 1 22 (va_A ([(x, .inr (14, [.ref ed, .int 15, .int mo])), (ed, .inl (cO, 15, .inr (.inr (.inr (.inr f)))))] ++ fz) sz) := by
  refine Met.ofW (cc := c_AL_grow) (maxL := 1) (ret := (some (.array (.object "java/lang/Object")))) (by decide) rfl ?_
  intro p e s m args below meth c s₁ B hml hv
  obtain ⟨rfl, hsz, hP, hK, hD0, hE⟩ := hv
  have hx := B.exec
  have hb := B.bytes
  have hr := B.returns
  have hts := atoms_spec (ws := ws_AL_grow) B.pre
  have htb := fun w (h : w ∈ TBL) => hts w (List.mem_cons_of_mem _ h)
  have hown : s.vm.findClass R_AL = some m.cls := findClass_of_methodNamed B.named
  have hlocks := B.notSynchronized
  subst hsz
  have hD := hD0.self (sz := s.heap.size)
  generalize hAe : va_A ([(x, .inr (14, [.ref ed, .int 15, .int mo])), (ed, .inl (cO, 15, .inr (.inr (.inr (.inr f)))))] ++ fz) s.heap.size = A at hD hE ⊢
  have hA : ∀ q : Nat, s.heap.size ≤ q → A q := fun q h => by rw [← hAe]; exact Or.inr h
  have hS : va_S A s.heap s.heap [] := va_S.rf
  have hP : va_P (dC, dI) vwCl ([(x, .inr (14, [.ref ed, .int 15, .int mo])), (ed, .inl (cO, 15, .inr (.inr (.inr (.inr f)))))] ++ fz) s.heap := hP
  have hl := lv_entry ([.ref x]) (n := 1) (Nat.le_of_ble_eq_true rfl)
  rw [lg_entry_eq]
  generalize (lg_sl ([.ref x]) ++ List.replicate (1 - (lg_sl ([.ref x])).length) Slot.unset).toArray = ls at hl ⊢
  have hl : lv_has ls 1 [(0, .ref x)] := hl
  refine lv_aload_n hx hb d_AL_grow_0 rfl (lv_at hl 0 rfl) ?_
  refine lv_aload_n hx hb d_AL_grow_1 rfl (lv_at hl 0 rfl) ?_
  refine va_get (D := (dC, dI)) (ci := 14) (v := .int 15) (C := R_AL) (T := T_AL) (N := 3) hx hb htb in_AL hown hK hP 0 rfl rfl 1 (by decide) (htb _ m_88) (fun _ h9 => h9) rfl d_AL_grow_2 ?_
  refine lv_iconst (v := 1) hx hb d_AL_grow_5 (by decide) ?_
  refine lv_iadd hx hb d_AL_grow_6 ?_
  refine W.eq (congrArg (fun z => F0 m 7 ls (.int z :: [.ref x])) (by decide : ((15 : Int32) + 1) = 16)) ?_
  have hPc := zz_pickP (pre := [(x, .inr (14, [.ref ed, .int 15, .int mo])), (ed, .inl (cO, 15, .inr (.inr (.inr (.inr f)))))]) (fz := fz) (wc := [(x, .inr (14, [.ref ed, .int 15, .int mo])), (ed, .inl (cO, 15, .inr (.inr (.inr (.inr f)))))]) hP [0, 1] rfl
  have hDc := zz_pickD (pre := [(x, .inr (14, [.ref ed, .int 15, .int mo])), (ed, .inl (cO, 15, .inr (.inr (.inr (.inr f)))))]) (fz := fz) (wc := [(x, .inr (14, [.ref ed, .int 15, .int mo])), (ed, .inl (cO, 15, .inr (.inr (.inr (.inr f)))))]) hD [0, 1] (by decide) rfl
  have hFc := zz_free (pre := [(x, .inr (14, [.ref ed, .int 15, .int mo])), (ed, .inl (cO, 15, .inr (.inr (.inr (.inr f)))))]) (fz := fz) (wc := [(x, .inr (14, [.ref ed, .int 15, .int mo])), (ed, .inl (cO, 15, .inr (.inr (.inr (.inr f)))))]) hD hS hA [0, 1] rfl
  have hKc := hK.sub (tys' := [(cO, .object "java/lang/Object")]) [0] rfl
  refine va_callr (va_runV (As := [.int 16]) (rest := []) ⟨hx, hb, hml, hown, htb⟩ (k_AL_grow2_15 l dC dI _ x mo ed cO f ci em aK aV fz hci hel) (cwV 1 htb (g_V (fun _ h => h) m_537 m_534 m_536 m_1632 m_8) rfl rfl rfl (by decide +kernel) ⟨Nat.le_of_ble_eq_true rfl, Nat.le_of_ble_eq_true rfl⟩) ⟨fun a U g mk q => by obtain ⟨q0, q1, qP, qK, qD, z0⟩ := q; exact ⟨q0, q1, qP, va_K.moved (u := U) (U := U.calling g mk a) (Vm.Alike.refl U.vm) qK, qD, EX.same (U := U) (U' := U.calling g mk a) rfl z0⟩, va_recv hK hP (ci := 14) rfl (q0 := 0) rfl, fun U hU hW => ⟨rfl, by rw [hU], by rw [hU]; exact hPc, va_K.moved hW.alike hKc, hDc.weaken (fun _ _ _ _ => trivial), by rw [hU]; exact EX.warm hW ((hE.kept (fun a h1 h2 => hS.2.1 a h1 h2)).narrow hFc)⟩⟩ rfl rfl hl.1 rfl (lv_room (Nat.le_of_ble_eq_true rfl)) d_AL_grow_7 ⟨Nat.le_of_ble_eq_true rfl, Nat.le_of_ble_eq_true rfl⟩) hS (fun q _ h => hFc q h) hFc (fun u1 ra4 t H1 locs ht hvm hw3 hB hz1 hk1 hS => ?_)
  obtain ⟨hP1, hK1, hD1⟩ := hB
  rw [ht] at hP1
  have hK1 := va_K.moved hvm.symm hK1
  have hw3 : True := hw3
  obtain ⟨hP, hD⟩ := zz_join (pre := [(x, .inr (14, [.ref ed, .int 15, .int mo])), (ed, .inl (cO, 15, .inr (.inr (.inr (.inr f)))))]) (fz := fz) (wc := [(x, .inr (14, [.ref ed, .int 15, .int mo])), (ed, .inl (cO, 15, .inr (.inr (.inr (.inr f)))))]) (wr := []) (w1 := ([(x, .inr (14, [.ref ra4, .int 15, .int mo])), (ra4, .inl (cO, 22, .inr (.inr (.inr (.inr (va_cpy f (fun _ => none) 0 0 15))))))] ++ fz)) hP hD [0, 1] [] rfl rfl (by decide) (by decide) hk1 hFc hP1 hD1
  have hK := (hK.sub (tys' := []) [] rfl).app hK1
  generalize H1 = H at hP hS ⊢
  have hP : va_P (dC, dI) vwCl ([(x, .inr (14, [.ref ra4, .int 15, .int mo])), (ra4, .inl (cO, 22, .inr (.inr (.inr (.inr (va_cpy f (fun _ => none) 0 0 15))))))] ++ fz) H := hP
  have hD : va_D A ([(x, .inr (14, [.ref ra4, .int 15, .int mo])), (ra4, .inl (cO, 22, .inr (.inr (.inr (.inr (va_cpy f (fun _ => none) 0 0 15))))))] ++ fz) := hD
  have hK : va_K (dC, dI) vwCl [(cO, .object "java/lang/Object")] s := hK
  refine W.widen (k := 1) (n := 22) (Nat.le_of_ble_eq_true rfl) (Nat.le_of_ble_eq_true rfl) ?_
  have hP9 := zz_pickP (pre := [(x, .inr (14, [.ref ra4, .int 15, .int mo])), (ra4, .inl (cO, 22, .inr (.inr (.inr (.inr (va_cpy f (fun _ => none) 0 0 15))))))]) (fz := fz) (wc := [(x, .inr (14, [.ref ra4, .int 15, .int mo])), (ra4, .inl (cO, 22, .inr (.inr (.inr (.inr (va_cpy f (fun _ => none) 0 0 15))))))]) hP [0, 1] rfl
  have hD9 := zz_pickD (pre := [(x, .inr (14, [.ref ra4, .int 15, .int mo])), (ra4, .inl (cO, 22, .inr (.inr (.inr (.inr (va_cpy f (fun _ => none) 0 0 15))))))]) (fz := fz) (wc := [(x, .inr (14, [.ref ra4, .int 15, .int mo])), (ra4, .inl (cO, 22, .inr (.inr (.inr (.inr (va_cpy f (fun _ => none) 0 0 15))))))]) hD [0, 1] (by decide) rfl
  have hK9 := hK.sub (tys' := [(cO, .object "java/lang/Object")]) [0] rfl
  refine W.widen (k := 1) (n := 22) (Nat.le_of_ble_eq_true rfl) (Nat.le_of_ble_eq_true rfl) ?_
  exact W.aret (v := .ref ra4) hx hb hr (Or.inr ⟨_, rfl⟩) (Or.inr ⟨_, rfl⟩) (fun t ht hW => ⟨⟨(), ra4, rfl, trivial, ⟨by rw [ht]; exact hP9, va_K.moved hW.alike hK9, hD9⟩⟩, hS.F ht⟩) hS.2.2 d_AL_grow_10
set_option maxHeartbeats 1000000 in
set_option maxRecDepth 100000 in
/-- grow(23) -/
theorem k_AL_grow2_22 (l : Launch) (dC : Nat → ClassId) (dI : Nat → Nat → Nat) (sz : Nat) (x : Nat) (mo : Int32) (ed : Nat) (cO : ClassId) (f : Nat → Option Nat) (ci : Nat) (em : Nat) (aK : Nat → Nat) (aV : Nat → Nat) (fz : va_W) (hci : Oci ci) (hel : ∀ i, i < 22 → ∀ y, f i = some y → Vin ci fz y) : Met l y_AL_grow2 ws_AL_grow2 ({ frames := 3, cells := 1, slots := 33, locals := 84 }) (va_Pc [.ref x, .int 23] (fun U => U.heap.size = sz ∧ va_P (dC, dI) vwCl ([(x, .inr (14, [.ref ed, .int 22, .int mo])), (ed, .inl (cO, 22, .inr (.inr (.inr (.inr f)))))] ++ fz) U.heap ∧ va_K (dC, dI) vwCl [(cO, .object "java/lang/Object")] U ∧ va_D (fun _ => True) ([(x, .inr (14, [.ref ed, .int 22, .int mo])), (ed, .inl (cO, 22, .inr (.inr (.inr (.inr f)))))] ++ fz) ∧ EX em aK aV (va_A ([(x, .inr (14, [.ref ed, .int 22, .int mo])), (ed, .inl (cO, 22, .inr (.inr (.inr (.inr f)))))] ++ fz) sz) U U.heap)) (va_Qr (fun (u : Unit) => True) (fun u ra t => va_P (dC, dI) vwCl ([(x, .inr (14, [.ref ra, .int 22, .int mo])), (ra, .inl (cO, 33, .inr (.inr (.inr (.inr (va_cpy f (fun _ => none) 0 0 22))))))] ++ fz) t.heap ∧ va_K (dC, dI) vwCl [(cO, .object "java/lang/Object")] t ∧ va_D (va_A ([(x, .inr (14, [.ref ed, .int 22, .int mo])), (ed, .inl (cO, 22, .inr (.inr (.inr (.inr f)))))] ++ fz) sz) ([(x, .inr (14, [.ref ra, .int 22, .int mo])), (ra, .inl (cO, 33, .inr (.inr (.inr (.inr (va_cpy f (fun _ => none) 0 0 22))))))] ++ fz)) (va_A ([(x, .inr (14, [.ref ed, .int 22, .int mo])), (ed, .inl (cO, 22, .inr (.inr (.inr (.inr f)))))] ++ fz) sz)) 1 33 (va_A ([(x, .inr (14, [.ref ed, .int 22, .int mo])), (ed, .inl (cO, 22, .inr (.inr (.inr (.inr f)))))] ++ fz) sz) := by
  refine Met.ofW (cc := c_AL_grow2) (maxL := 4) (ret := (some (.array (.object "java/lang/Object")))) (by decide) rfl ?_
  intro p e s m args below meth c s₁ B hml hv
  obtain ⟨rfl, hsz, hP, hK, hD0, hE⟩ := hv
  have hx := B.exec
  have hb := B.bytes
  have hr := B.returns
  have hts := atoms_spec (ws := ws_AL_grow2) B.pre
  have htb := fun w (h : w ∈ TBL) => hts w (List.mem_cons_of_mem _ h)
  have hown : s.vm.findClass R_AL = some m.cls := findClass_of_methodNamed B.named
  have hlocks := B.notSynchronized
  subst hsz
  have hD := hD0.self (sz := s.heap.size)
  generalize hAe : va_A ([(x, .inr (14, [.ref ed, .int 22, .int mo])), (ed, .inl (cO, 22, .inr (.inr (.inr (.inr f)))))] ++ fz) s.heap.size = A at hD hE ⊢
  have hA : ∀ q : Nat, s.heap.size ≤ q → A q := fun q h => by rw [← hAe]; exact Or.inr h
  have hS : va_S A s.heap s.heap [] := va_S.rf
  have hP : va_P (dC, dI) vwCl ([(x, .inr (14, [.ref ed, .int 22, .int mo])), (ed, .inl (cO, 22, .inr (.inr (.inr (.inr f)))))] ++ fz) s.heap := hP
  have hl := lv_entry ([.ref x, .int 23]) (n := 4) (Nat.le_of_ble_eq_true rfl)
  rw [lg_entry_eq]
  generalize (lg_sl ([.ref x, .int 23]) ++ List.replicate (4 - (lg_sl ([.ref x, .int 23])).length) Slot.unset).toArray = ls at hl ⊢
  have hl : lv_has ls 4 [(0, .ref x), (1, .int 23)] := hl
  refine lv_aload_n hx hb d_AL_grow2_0 rfl (lv_at hl 0 rfl) ?_
  refine va_get (D := (dC, dI)) (ci := 14) (v := .ref ed) (C := R_AL) (T := T_AL) (N := 3) hx hb htb in_AL hown hK hP 0 rfl rfl 0 (by decide) (htb _ m_87) (fun _ h9 => h9) rfl d_AL_grow2_1 ?_
  refine va_alen (v := 22) hx hb hK hP 1 0 rfl rfl rfl d_AL_grow2_4 ?_
  refine lv_istore_n hx hb d_AL_grow2_5 rfl hl (by decide) rfl (fun ls hl => ?_)
  have hl : lv_has ls 4 [(2, .int 22), (0, .ref x), (1, .int 23)] := hl
  refine lv_iload_n hx hb d_AL_grow2_6 rfl (lv_at hl 0 rfl) ?_
  refine lv_if_gt (tgt := 20) hx hb d_AL_grow2_7 rfl (fun _ => ?_) (fun h9 => absurd (by decide) h9)
  refine lv_iload_n hx hb d_AL_grow2_20 rfl (lv_at hl 0 rfl) ?_
  refine lv_iload_n hx hb d_AL_grow2_21 rfl (lv_at hl 2 rfl) ?_
  refine lv_iload_n hx hb d_AL_grow2_22 rfl (lv_at hl 0 rfl) ?_
  refine lv_isub hx hb d_AL_grow2_23 ?_
  refine W.eq (congrArg (fun z => F0 m 24 ls (.int z :: [.int 22])) (by decide : ((23 : Int32) - 22) = 1)) ?_
  refine lv_iload_n hx hb d_AL_grow2_24 rfl (lv_at hl 0 rfl) ?_
  refine lv_iconst (v := 1) hx hb d_AL_grow2_25 (by decide) ?_
  refine lv_ishr hx hb d_AL_grow2_26 ?_
  refine W.eq (congrArg (fun z => F0 m 27 ls (.int z :: [.int 1, .int 22])) (by decide : ((22 : Int32) >>> ((1 : Int32) &&& 31)) = 11)) ?_
  have hPc : va_P (dC, dI) vwCl [] _ := hP.sub (ws' := []) [] rfl
  have hKc := hK.sub (tys' := []) [] rfl
  refine vp_callSi (W.runS (As := [.int (nI 22), .int (nI 1), .int (nI 11)]) (rest := []) ⟨hx, hb, hml, hown, htb⟩ (q_AS_newLength l dC dI 22 1 11 (by decide) (by decide) (by decide) (by decide)) (va_cwS 3 htb (g_S (fun _ h => h) m_210 m_538 m_209 m_12) rfl rfl rfl (by decide +kernel) ⟨Nat.le_of_ble_eq_true rfl, Nat.le_of_ble_eq_true rfl⟩) ⟨fun a U g mk q => by obtain ⟨q0, qP, qK⟩ := q; exact ⟨q0, qP, va_K.moved (u := U) (U := U.calling g mk a) (Vm.Alike.refl U.vm) qK⟩, fun U hU hW => ⟨rfl, by rw [hU]; exact hPc, va_K.moved hW.alike hKc⟩⟩ rfl rfl hl.1 rfl (lv_room (Nat.le_of_ble_eq_true rfl)) d_AL_grow2_27 ⟨Nat.le_of_ble_eq_true rfl, Nat.le_of_ble_eq_true rfl⟩) (fun r1 hw2 => ?_)
  have hw2 : r1 = nI (22 + Nat.max 1 11) := hw2
  obtain rfl : r1 = (33 : Int32) := hw2.trans (by decide)
  refine lv_istore_n hx hb d_AL_grow2_30 rfl hl (by decide) rfl (fun ls hl => ?_)
  have hl : lv_has ls 4 [(3, .int 33), (2, .int 22), (0, .ref x), (1, .int 23)] := hl
  refine lv_aload_n hx hb d_AL_grow2_31 rfl (lv_at hl 2 rfl) ?_
  refine lv_aload_n hx hb d_AL_grow2_32 rfl (lv_at hl 2 rfl) ?_
  refine va_get (D := (dC, dI)) (ci := 14) (v := .ref ed) (C := R_AL) (T := T_AL) (N := 3) hx hb htb in_AL hown hK hP 0 rfl rfl 0 (by decide) (htb _ m_87) (fun _ h9 => h9) rfl d_AL_grow2_33 ?_
  refine lv_iload_n hx hb d_AL_grow2_36 rfl (lv_at hl 0 rfl) ?_
  have hPc := zz_pickP (pre := [(x, .inr (14, [.ref ed, .int 22, .int mo])), (ed, .inl (cO, 22, .inr (.inr (.inr (.inr f)))))]) (fz := fz) (wc := [(ed, .inl (cO, 22, .inr (.inr (.inr (.inr f)))))]) hP [1] rfl
  have hDc := zz_pickD (pre := [(x, .inr (14, [.ref ed, .int 22, .int mo])), (ed, .inl (cO, 22, .inr (.inr (.inr (.inr f)))))]) (fz := fz) (wc := [(ed, .inl (cO, 22, .inr (.inr (.inr (.inr f)))))]) hD [1] (by decide) rfl
  have hFc := zz_free (pre := [(x, .inr (14, [.ref ed, .int 22, .int mo])), (ed, .inl (cO, 22, .inr (.inr (.inr (.inr f)))))]) (fz := fz) (wc := [(ed, .inl (cO, 22, .inr (.inr (.inr (.inr f)))))]) hD hS hA [1] rfl
  have hKc := hK.sub (tys' := [(cO, .object "java/lang/Object")]) [0] rfl
  refine va_callr (va_runS (As := [.ref ed, .int 33]) (rest := [.ref x]) ⟨hx, hb, hml, hown, htb⟩ (k_AR_copyOf2_22 l dC dI _ ed cO f ci em aK aV fz hci hel) (va_cwS 2 htb (g_S (fun _ h => h) m_541 m_539 m_540 m_14) rfl rfl rfl (by decide +kernel) ⟨Nat.le_of_ble_eq_true rfl, Nat.le_of_ble_eq_true rfl⟩) ⟨fun a U g mk q => by obtain ⟨q0, q1, qP, qK, qD, z0⟩ := q; exact ⟨q0, q1, qP, va_K.moved (u := U) (U := U.calling g mk a) (Vm.Alike.refl U.vm) qK, qD, EX.same (U := U) (U' := U.calling g mk a) rfl z0⟩, fun U hU hW => ⟨rfl, by rw [hU], by rw [hU]; exact hPc, va_K.moved hW.alike hKc, hDc.weaken (fun _ _ _ _ => trivial), by rw [hU]; exact EX.warm hW ((hE.kept (fun a h1 h2 => hS.2.1 a h1 h2)).narrow hFc)⟩⟩ rfl rfl hl.1 rfl (lv_room (Nat.le_of_ble_eq_true rfl)) d_AL_grow2_37 ⟨Nat.le_of_ble_eq_true rfl, Nat.le_of_ble_eq_true rfl⟩) hS (fun q _ h => hFc q h) hFc (fun u3 ra6 t H1 locs ht hvm hw5 hB hz1 hk1 hS => ?_)
  obtain ⟨hP1, hK1, hD1⟩ := hB
  rw [ht] at hP1
  have hK1 := va_K.moved hvm.symm hK1
  have hw5 : True := hw5
  obtain ⟨hP, hD⟩ := zz_join (pre := [(x, .inr (14, [.ref ed, .int 22, .int mo])), (ed, .inl (cO, 22, .inr (.inr (.inr (.inr f)))))]) (fz := fz) (wc := [(ed, .inl (cO, 22, .inr (.inr (.inr (.inr f)))))]) (wr := [(x, .inr (14, [.ref ed, .int 22, .int mo]))]) (w1 := ([(ed, .inl (cO, 22, .inr (.inr (.inr (.inr f))))), (ra6, .inl (cO, 33, .inr (.inr (.inr (.inr (va_cpy f (fun _ => none) 0 0 22))))))] ++ fz)) hP hD [1] [0] rfl rfl (by decide) (by decide) hk1 hFc hP1 hD1
  have hK := (hK.sub (tys' := []) [] rfl).app hK1
  generalize H1 = H at hP hS ⊢
  have hP : va_P (dC, dI) vwCl ([(x, .inr (14, [.ref ed, .int 22, .int mo])), (ed, .inl (cO, 22, .inr (.inr (.inr (.inr f))))), (ra6, .inl (cO, 33, .inr (.inr (.inr (.inr (va_cpy f (fun _ => none) 0 0 22))))))] ++ fz) H := hP
  have hD : va_D A ([(x, .inr (14, [.ref ed, .int 22, .int mo])), (ed, .inl (cO, 22, .inr (.inr (.inr (.inr f))))), (ra6, .inl (cO, 33, .inr (.inr (.inr (.inr (va_cpy f (fun _ => none) 0 0 22))))))] ++ fz) := hD
  have hK : va_K (dC, dI) vwCl [(cO, .object "java/lang/Object")] s := hK
  refine W.widen (k := 1) (n := 33) (Nat.le_of_ble_eq_true rfl) (Nat.le_of_ble_eq_true rfl) ?_
  refine lv_dup_x1 hx hb d_AL_grow2_40 rfl rfl ?_
  refine va_put (D := (dC, dI)) (ci := 14) (v := .ref ra6) (ty := (.array (.object "java/lang/Object"))) (C := R_AL) (T := T_AL) (N := 3) hx hb htb in_AL ty_AL ty_AL_ok nm_AL hown hK hP hD hS 0 rfl rfl 0 (by decide) (htb _ m_87) (fun _ h9 => h9) rfl (by decide +kernel) rfl rfl (Nat.le_of_ble_eq_true rfl) d_AL_grow2_41 (fun H locs hP hD hS => ?_)
  have hP : va_P (dC, dI) vwCl ([(x, .inr (14, [.ref ra6, .int 22, .int mo])), (ed, .inl (cO, 22, .inr (.inr (.inr (.inr f))))), (ra6, .inl (cO, 33, .inr (.inr (.inr (.inr (va_cpy f (fun _ => none) 0 0 22))))))] ++ fz) H := hP
  have hD : va_D A ([(x, .inr (14, [.ref ra6, .int 22, .int mo])), (ed, .inl (cO, 22, .inr (.inr (.inr (.inr f))))), (ra6, .inl (cO, 33, .inr (.inr (.inr (.inr (va_cpy f (fun _ => none) 0 0 22))))))] ++ fz) := hD
  have hP9 := zz_pickP (pre := [(x, .inr (14, [.ref ra6, .int 22, .int mo])), (ed, .inl (cO, 22, .inr (.inr (.inr (.inr f))))), (ra6, .inl (cO, 33, .inr (.inr (.inr (.inr (va_cpy f (fun _ => none) 0 0 22))))))]) (fz := fz) (wc := [(x, .inr (14, [.ref ra6, .int 22, .int mo])), (ra6, .inl (cO, 33, .inr (.inr (.inr (.inr (va_cpy f (fun _ => none) 0 0 22))))))]) hP [0, 2] rfl
  have hD9 := zz_pickD (pre := [(x, .inr (14, [.ref ra6, .int 22, .int mo])), (ed, .inl (cO, 22, .inr (.inr (.inr (.inr f))))), (ra6, .inl (cO, 33, .inr (.inr (.inr (.inr (va_cpy f (fun _ => none) 0 0 22))))))]) (fz := fz) (wc := [(x, .inr (14, [.ref ra6, .int 22, .int mo])), (ra6, .inl (cO, 33, .inr (.inr (.inr (.inr (va_cpy f (fun _ => none) 0 0 22))))))]) hD [0, 2] (by decide) rfl
  have hK9 := hK.sub (tys' := [(cO, .object "java/lang/Object")]) [0] rfl
  refine W.widen (k := 1) (n := 33) (Nat.le_of_ble_eq_true rfl) (Nat.le_of_ble_eq_true rfl) ?_
  exact W.aret (v := .ref ra6) hx hb hr (Or.inr ⟨_, rfl⟩) (Or.inr ⟨_, rfl⟩) (fun t ht hW => ⟨⟨(), ra6, rfl, trivial, ⟨by rw [ht]; exact hP9, va_K.moved hW.alike hK9, hD9⟩⟩, hS.F ht⟩) hS.2.2 d_AL_grow2_44
set_option maxHeartbeats 1000000 in
set_option maxRecDepth 100000 in
/-- grow() -/
theorem k_AL_grow_22 (l : Launch) (dC : Nat → ClassId) (dI : Nat → Nat → Nat) (sz : Nat) (x : Nat) (mo : Int32) (ed : Nat) (cO : ClassId) (f : Nat → Option Nat) (ci : Nat) (em : Nat) (aK : Nat → Nat) (aV : Nat → Nat) (fz : va_W) (hci : Oci ci) (hel : ∀ i, i < 22 → ∀ y, f i = some y → Vin ci fz y) : Met l y_AL_grow ws_AL_grow ({ frames := 4, cells := 1, slots := 33, locals := 107 }) (va_Pc [.ref x] (fun U => U.heap.size = sz ∧ va_P (dC, dI) vwCl ([(x, .inr (14, [.ref ed, .int 22, .int mo])), (ed, .inl (cO, 22, .inr (.inr (.inr (.inr f)))))] ++ fz) U.heap ∧ va_K (dC, dI) vwCl [(cO, .object "java/lang/Object")] U ∧ va_D (fun _ => True) ([(x, .inr (14, [.ref ed, .int 22, .int mo])), (ed, .inl (cO, 22, .inr (.inr (.inr (.inr f)))))] ++ fz) ∧ EX em aK aV (va_A ([(x, .inr (14, [.ref ed, .int 22, .int mo])), (ed, .inl (cO, 22, .inr (.inr (.inr (.inr f)))))] ++ fz) sz) U U.heap)) (va_Qr (fun (u : Unit) => True) (fun u ra t => va_P (dC, dI) vwCl ([(x, .inr (14, [.ref ra, .int 22, .int mo])), (ra, .inl (cO, 33, .inr (.inr (.inr (.inr (va_cpy f (fun _ => none) 0 0 22))))))] ++ fz) t.heap ∧ va_K (dC, dI) vwCl [(cO, .object "java/lang/Object")] t ∧ va_D (va_A ([(x, .inr (14, [.ref ed, .int 22, .int mo])), (ed, .inl (cO, 22, .inr (.inr (.inr (.inr f)))))] ++ fz) sz) ([(x, .inr (14, [.ref ra, .int 22, .int mo])), (ra, .inl (cO, 33, .inr (.inr (.inr (.inr (va_cpy f (fun _ => none) 0 0 22))))))] ++ fz)) (va_A ([(x, .inr (14, [.ref ed, .int 22, .int mo])), (ed, .inl (cO, 22, .inr (.inr (.inr (.inr f)))))] ++ fz) sz)) 1 33 (va_A ([(x, .inr (14, [.ref ed, .int 22, .int mo])), (ed, .inl (cO, 22, .inr (.inr (.inr (.inr f)))))] ++ fz) sz) := by
  refine Met.ofW (cc := c_AL_grow) (maxL := 1) (ret := (some (.array (.object "java/lang/Object")))) (by decide) rfl ?_
  intro p e s m args below meth c s₁ B hml hv
  obtain ⟨rfl, hsz, hP, hK, hD0, hE⟩ := hv
  have hx := B.exec
  have hb := B.bytes
  have hr := B.returns
  have hts := atoms_spec (ws := ws_AL_grow) B.pre
  have htb := fun w (h : w ∈ TBL) => hts w (List.mem_cons_of_mem _ h)
  have hown : s.vm.findClass R_AL = some m.cls := findClass_of_methodNamed B.named
  have hlocks := B.notSynchronized
  subst hsz
  have hD := hD0.self (sz := s.heap.size)
  generalize hAe : va_A ([(x, .inr (14, [.ref ed, .int 22, .int mo])), (ed, .inl (cO, 22, .inr (.inr (.inr (.inr f)))))] ++ fz) s.heap.size = A at hD hE ⊢
  have hA : ∀ q : Nat, s.heap.size ≤ q → A q := fun q h => by rw [← hAe]; exact Or.inr h
  have hS : va_S A s.heap s.heap [] := va_S.rf
  have hP : va_P (dC, dI) vwCl ([(x, .inr (14, [.ref ed, .int 22, .int mo])), (ed, .inl (cO, 22, .inr (.inr (.inr (.inr f)))))] ++ fz) s.heap := hP
  have hl := lv_entry ([.ref x]) (n := 1) (Nat.le_of_ble_eq_true rfl)
  rw [lg_entry_eq]
  generalize (lg_sl ([.ref x]) ++ List.replicate (1 - (lg_sl ([.ref x])).length) Slot.unset).toArray = ls at hl ⊢
  have hl : lv_has ls 1 [(0, .ref x)] := hl
  refine lv_aload_n hx hb d_AL_grow_0 rfl (lv_at hl 0 rfl) ?_
  refine lv_aload_n hx hb d_AL_grow_1 rfl (lv_at hl 0 rfl) ?_
  refine va_get (D := (dC, dI)) (ci := 14) (v := .int 22) (C := R_AL) (T := T_AL) (N := 3) hx hb htb in_AL hown hK hP 0 rfl rfl 1 (by decide) (htb _ m_88) (fun _ h9 => h9) rfl d_AL_grow_2 ?_
  refine lv_iconst (v := 1) hx hb d_AL_grow_5 (by decide) ?_
  refine lv_iadd hx hb d_AL_grow_6 ?_
  refine W.eq (congrArg (fun z => F0 m 7 ls (.int z :: [.ref x])) (by decide : ((22 : Int32) + 1) = 23)) ?_
  have hPc := zz_pickP (pre := [(x, .inr (14, [.ref ed, .int 22, .int mo])), (ed, .inl (cO, 22, .inr (.inr (.inr (.inr f)))))]) (fz := fz) (wc := [(x, .inr (14, [.ref ed, .int 22, .int mo])), (ed, .inl (cO, 22, .inr (.inr (.inr (.inr f)))))]) hP [0, 1] rfl
  have hDc := zz_pickD (pre := [(x, .inr (14, [.ref ed, .int 22, .int mo])), (ed, .inl (cO, 22, .inr (.inr (.inr (.inr f)))))]) (fz := fz) (wc := [(x, .inr (14, [.ref ed, .int 22, .int mo])), (ed, .inl (cO, 22, .inr (.inr (.inr (.inr f)))))]) hD [0, 1] (by decide) rfl
  have hFc := zz_free (pre := [(x, .inr (14, [.ref ed, .int 22, .int mo])), (ed, .inl (cO, 22, .inr (.inr (.inr (.inr f)))))]) (fz := fz) (wc := [(x, .inr (14, [.ref ed, .int 22, .int mo])), (ed, .inl (cO, 22, .inr (.inr (.inr (.inr f)))))]) hD hS hA [0, 1] rfl
  have hKc := hK.sub (tys' := [(cO, .object "java/lang/Object")]) [0] rfl
  refine va_callr (va_runV (As := [.int 23]) (rest := []) ⟨hx, hb, hml, hown, htb⟩ (k_AL_grow2_22 l dC dI _ x mo ed cO f ci em aK aV fz hci hel) (cwV 1 htb (g_V (fun _ h => h) m_537 m_534 m_536 m_1632 m_8) rfl rfl rfl (by decide +kernel) ⟨Nat.le_of_ble_eq_true rfl, Nat.le_of_ble_eq_true rfl⟩) ⟨fun a U g mk q => by obtain ⟨q0, q1, qP, qK, qD, z0⟩ := q; exact ⟨q0, q1, qP, va_K.moved (u := U) (U := U.calling g mk a) (Vm.Alike.refl U.vm) qK, qD, EX.same (U := U) (U' := U.calling g mk a) rfl z0⟩, va_recv hK hP (ci := 14) rfl (q0 := 0) rfl, fun U hU hW => ⟨rfl, by rw [hU], by rw [hU]; exact hPc, va_K.moved hW.alike hKc, hDc.weaken (fun _ _ _ _ => trivial), by rw [hU]; exact EX.warm hW ((hE.kept (fun a h1 h2 => hS.2.1 a h1 h2)).narrow hFc)⟩⟩ rfl rfl hl.1 rfl (lv_room (Nat.le_of_ble_eq_true rfl)) d_AL_grow_7 ⟨Nat.le_of_ble_eq_true rfl, Nat.le_of_ble_eq_true rfl⟩) hS (fun q _ h => hFc q h) hFc (fun u1 ra4 t H1 locs ht hvm hw3 hB hz1 hk1 hS => ?_)
  obtain ⟨hP1, hK1, hD1⟩ := hB
  rw [ht] at hP1
  have hK1 := va_K.moved hvm.symm hK1
  have hw3 : True := hw3
  obtain ⟨hP, hD⟩ := zz_join (pre := [(x, .inr (14, [.ref ed, .int 22, .int mo])), (ed, .inl (cO, 22, .inr (.inr (.inr (.inr f)))))]) (fz := fz) (wc := [(x, .inr (14, [.ref ed, .int 22, .int mo])), (ed, .inl (cO, 22, .inr (.inr (.inr (.inr f)))))]) (wr := []) (w1 := ([(x, .inr (14, [.ref ra4, .int 22, .int mo])), (ra4, .inl (cO, 33, .inr (.inr (.inr (.inr (va_cpy f (fun _ => none) 0 0 22))))))] ++ fz)) hP hD [0, 1] [] rfl rfl (by decide) (by decide) hk1 hFc hP1 hD1
  have hK := (hK.sub (tys' := []) [] rfl).app hK1
  generalize H1 = H at hP hS ⊢
  have hP : va_P (dC, dI) vwCl ([(x, .inr (14, [.ref ra4, .int 22, .int mo])), (ra4, .inl (cO, 33, .inr (.inr (.inr (.inr (va_cpy f (fun _ => none) 0 0 22))))))] ++ fz) H := hP
  have hD : va_D A ([(x, .inr (14, [.ref ra4, .int 22, .int mo])), (ra4, .inl (cO, 33, .inr (.inr (.inr (.inr (va_cpy f (fun _ => none) 0 0 22))))))] ++ fz) := hD
  have hK : va_K (dC, dI) vwCl [(cO, .object "java/lang/Object")] s := hK
  refine W.widen (k := 1) (n := 33) (Nat.le_of_ble_eq_true rfl) (Nat.le_of_ble_eq_true rfl) ?_
  have hP9 := zz_pickP (pre := [(x, .inr (14, [.ref ra4, .int 22, .int mo])), (ra4, .inl (cO, 33, .inr (.inr (.inr (.inr (va_cpy f (fun _ => none) 0 0 22))))))]) (fz := fz) (wc := [(x, .inr (14, [.ref ra4, .int 22, .int mo])), (ra4, .inl (cO, 33, .inr (.inr (.inr (.inr (va_cpy f (fun _ => none) 0 0 22))))))]) hP [0, 1] rfl
  have hD9 := zz_pickD (pre := [(x, .inr (14, [.ref ra4, .int 22, .int mo])), (ra4, .inl (cO, 33, .inr (.inr (.inr (.inr (va_cpy f (fun _ => none) 0 0 22))))))]) (fz := fz) (wc := [(x, .inr (14, [.ref ra4, .int 22, .int mo])), (ra4, .inl (cO, 33, .inr (.inr (.inr (.inr (va_cpy f (fun _ => none) 0 0 22))))))]) hD [0, 1] (by decide) rfl
  have hK9 := hK.sub (tys' := [(cO, .object "java/lang/Object")]) [0] rfl
  refine W.widen (k := 1) (n := 33) (Nat.le_of_ble_eq_true rfl) (Nat.le_of_ble_eq_true rfl) ?_
  exact W.aret (v := .ref ra4) hx hb hr (Or.inr ⟨_, rfl⟩) (Or.inr ⟨_, rfl⟩) (fun t ht hW => ⟨⟨(), ra4, rfl, trivial, ⟨by rw [ht]; exact hP9, va_K.moved hW.alike hK9, hD9⟩⟩, hS.F ht⟩) hS.2.2 d_AL_grow_10
set_option maxHeartbeats 1000000 in
set_option maxRecDepth 100000 in
/-- grow(34) -/
theorem k_AL_grow2_33 (l : Launch) (dC : Nat → ClassId) (dI : Nat → Nat → Nat) (sz : Nat) (x : Nat) (mo : Int32) (ed : Nat) (cO : ClassId) (f : Nat → Option Nat) (ci : Nat) (em : Nat) (aK : Nat → Nat) (aV : Nat → Nat) (fz : va_W) (hci : Oci ci) (hel : ∀ i, i < 33 → ∀ y, f i = some y → Vin ci fz y) : Met l y_AL_grow2 ws_AL_grow2 ({ frames := 3, cells := 1, slots := 49, locals := 84 }) (va_Pc [.ref x, .int 34] (fun U => U.heap.size = sz ∧ va_P (dC, dI) vwCl ([(x, .inr (14, [.ref ed, .int 33, .int mo])), (ed, .inl (cO, 33, .inr (.inr (.inr (.inr f)))))] ++ fz) U.heap ∧ va_K (dC, dI) vwCl [(cO, .object "java/lang/Object")] U ∧ va_D (fun _ => True) ([(x, .inr (14, [.ref ed, .int 33, .int mo])), (ed, .inl (cO, 33, .inr (.inr (.inr (.inr f)))))] ++ fz) ∧ EX em aK aV (va_A ([(x, .inr (14, [.ref ed, .int 33, .int mo])), (ed, .inl (cO, 33, .inr (.inr (.inr (.inr f)))))] ++ fz) sz) U U.heap)) (va_Qr (fun (u : Unit) => True) (fun u ra t => va_P (dC, dI) vwCl ([(x, .inr (14, [.ref ra, .int 33, .int mo])), (ra, .inl (cO, 49, .inr (.inr (.inr (.inr (va_cpy f (fun _ => none) 0 0 33))))))] ++ fz) t.heap ∧ va_K (dC, dI) vwCl [(cO, .object "java/lang/Object")] t ∧ va_D (va_A ([(x, .inr (14, [.ref ed, .int 33, .int mo])), (ed, .inl (cO, 33, .inr (.inr (.inr (.inr f)))))] ++ fz) sz) ([(x, .inr (14, [.ref ra, .int 33, .int mo])), (ra, .inl (cO, 49, .inr (.inr (.inr (.inr (va_cpy f (fun _ => none) 0 0 33))))))] ++ fz)) (va_A ([(x, .inr (14, [.ref ed, .int 33, .int mo])), (ed, .inl (cO, 33, .inr (.inr (.inr (.inr f)))))] ++ fz) sz)) 1 49 (va_A ([(x, .inr (14, [.ref ed, .int 33, .int mo])), (ed, .inl (cO, 33, .inr (.inr (.inr (.inr f)))))] ++ fz) sz) := by
  refine Met.ofW (cc := c_AL_grow2) (maxL := 4) (ret := (some (.array (.object "java/lang/Object")))) (by decide) rfl ?_
  intro p e s m args below meth c s₁ B hml hv
  obtain ⟨rfl, hsz, hP, hK, hD0, hE⟩ := hv
  have hx := B.exec
  have hb := B.bytes
  have hr := B.returns
  have hts := atoms_spec (ws := ws_AL_grow2) B.pre
  have htb := fun w (h : w ∈ TBL) => hts w (List.mem_cons_of_mem _ h)
  have hown : s.vm.findClass R_AL = some m.cls := findClass_of_methodNamed B.named
  have hlocks := B.notSynchronized
  subst hsz
  have hD := hD0.self (sz := s.heap.size)
  generalize hAe : va_A ([(x, .inr (14, [.ref ed, .int 33, .int mo])), (ed, .inl (cO, 33, .inr (.inr (.inr (.inr f)))))] ++ fz) s.heap.size = A at hD hE ⊢
  have hA : ∀ q : Nat, s.heap.size ≤ q → A q := fun q h => by rw [← hAe]; exact Or.inr h
  have hS : va_S A s.heap s.heap [] := va_S.rf
  have hP : va_P (dC, dI) vwCl ([(x, .inr (14, [.ref ed, .int 33, .int mo])), (ed, .inl (cO, 33, .inr (.inr (.inr (.inr f)))))] ++ fz) s.heap := hP
  have hl := lv_entry ([.ref x, .int 34]) (n := 4) (Nat.le_of_ble_eq_true rfl)
  rw [lg_entry_eq]
  generalize (lg_sl ([.ref x, .int 34]) ++ List.replicate (4 - (lg_sl ([.ref x, .int 34])).length) Slot.unset).toArray = ls at hl ⊢
  have hl : lv_has ls 4 [(0, .ref x), (1, .int 34)] := hl
  refine lv_aload_n hx hb d_AL_grow2_0 rfl (lv_at hl 0 rfl) ?_
  refine va_get (D := (dC, dI)) (ci := 14) (v := .ref ed) (C := R_AL) (T := T_AL) (N := 3) hx hb htb in_AL hown hK hP 0 rfl rfl 0 (by decide) (htb _ m_87) (fun _ h9 => h9) rfl d_AL_grow2_1 ?_
  refine va_alen (v := 33) hx hb hK hP 1 0 rfl rfl rfl d_AL_grow2_4 ?_
  refine lv_istore_n hx hb d_AL_grow2_5 rfl hl (by decide) rfl (fun ls hl => ?_)
  have hl : lv_has ls 4 [(2, .int 33), (0, .ref x), (1, .int 34)] := hl
  refine lv_iload_n hx hb d_AL_grow2_6 rfl (lv_at hl 0 rfl) ?_
  refine lv_if_gt (tgt := 20) hx hb d_AL_grow2_7 rfl (fun _ => ?_) (fun h9 => absurd (by decide) h9)
  refine lv_iload_n hx hb d_AL_grow2_20 rfl (lv_at hl 0 rfl) ?_
  refine lv_iload_n hx hb d_AL_grow2_21 rfl (lv_at hl 2 rfl) ?_
  refine lv_iload_n hx hb d_AL_grow2_22 rfl (lv_at hl 0 rfl) ?_
  refine lv_isub hx hb d_AL_grow2_23 ?_
  refine W.eq (congrArg (fun z => F0 m 24 ls (.int z :: [.int 33])) (by decide : ((34 : Int32) - 33) = 1)) ?_
  refine lv_iload_n hx hb d_AL_grow2_24 rfl (lv_at hl 0 rfl) ?_
  refine lv_iconst (v := 1) hx hb d_AL_grow2_25 (by decide) ?_
  refine lv_ishr hx hb d_AL_grow2_26 ?_
  refine W.eq (congrArg (fun z => F0 m 27 ls (.int z :: [.int 1, .int 33])) (by decide : ((33 : Int32) >>> ((1 : Int32) &&& 31)) = 16)) ?_
  have hPc : va_P (dC, dI) vwCl [] _ := hP.sub (ws' := []) [] rfl
  have hKc := hK.sub (tys' := []) [] rfl
  refine vp_callSi (W.runS (As := [.int (nI 33), .int (nI 1), .int (nI 16)]) (rest := []) ⟨hx, hb, hml, hown, htb⟩ (q_AS_newLength l dC dI 33 1 16 (by decide) (by decide) (by decide) (by decide)) (va_cwS 3 htb (g_S (fun _ h => h) m_210 m_538 m_209 m_12) rfl rfl rfl (by decide +kernel) ⟨Nat.le_of_ble_eq_true rfl, Nat.le_of_ble_eq_true rfl⟩) ⟨fun a U g mk q => by obtain ⟨q0, qP, qK⟩ := q; exact ⟨q0, qP, va_K.moved (u := U) (U := U.calling g mk a) (Vm.Alike.refl U.vm) qK⟩, fun U hU hW => ⟨rfl, by rw [hU]; exact hPc, va_K.moved hW.alike hKc⟩⟩ rfl rfl hl.1 rfl (lv_room (Nat.le_of_ble_eq_true rfl)) d_AL_grow2_27 ⟨Nat.le_of_ble_eq_true rfl, Nat.le_of_ble_eq_true rfl⟩) (fun r1 hw2 => ?_)
  have hw2 : r1 = nI (33 + Nat.max 1 16) := hw2
  obtain rfl : r1 = (49 : Int32) := hw2.trans (by decide)
  refine lv_istore_n hx hb d_AL_grow2_30 rfl hl (by decide) rfl (fun ls hl => ?_)
  have hl : lv_has ls 4 [(3, .int 49), (2, .int 33), (0, .ref x), (1, .int 34)] := hl
  refine lv_aload_n hx hb d_AL_grow2_31 rfl (lv_at hl 2 rfl) ?_
  refine lv_aload_n hx hb d_AL_grow2_32 rfl (lv_at hl 2 rfl) ?_
  refine va_get (D := (dC, dI)) (ci := 14) (v := .ref ed) (C := R_AL) (T := T_AL) (N := 3) hx hb htb in_AL hown hK hP 0 rfl rfl 0 (by decide) (htb _ m_87) (fun _ h9 => h9) rfl d_AL_grow2_33 ?_
  refine lv_iload_n hx hb d_AL_grow2_36 rfl (lv_at hl 0 rfl) ?_
  have hPc := zz_pickP (pre := [(x, .inr (14, [.ref ed, .int 33, .int mo])), (ed, .inl (cO, 33, .inr (.inr (.inr (.inr f)))))]) (fz := fz) (wc := [(ed, .inl (cO, 33, .inr (.inr (.inr (.inr f)))))]) hP [1] rfl
  have hDc := zz_pickD (pre := [(x, .inr (14, [.ref ed, .int 33, .int mo])), (ed, .inl (cO, 33, .inr (.inr (.inr (.inr f)))))]) (fz := fz) (wc := [(ed, .inl (cO, 33, .inr (.inr (.inr (.inr f)))))]) hD [1] (by decide) rfl
  have hFc := zz_free (pre := [(x, .inr (14, [.ref ed, .int 33, .int mo])), (ed, .inl (cO, 33, .inr (.inr (.inr (.inr f)))))]) (fz := fz) (wc := [(ed, .inl (cO, 33, .inr (.inr (.inr (.inr f)))))]) hD hS hA [1] rfl
  have hKc := hK.sub (tys' := [(cO, .object "java/lang/Object")]) [0] rfl
  refine va_callr (va_runS (As := [.ref ed, .int 49]) (rest := [.ref x]) ⟨hx, hb, hml, hown, htb⟩ (k_AR_copyOf2_33 l dC dI _ ed cO f ci em aK aV fz hci hel) (va_cwS 2 htb (g_S (fun _ h => h) m_541 m_539 m_540 m_14) rfl rfl rfl (by decide +kernel) ⟨Nat.le_of_ble_eq_true rfl, Nat.le_of_ble_eq_true rfl⟩) ⟨fun a U g mk q => by obtain ⟨q0, q1, qP, qK, qD, z0⟩ := q; exact ⟨q0, q1, qP, va_K.moved (u := U) (U := U.calling g mk a) (Vm.Alike.refl U.vm) qK, qD, EX.same (U := U) (U' := U.calling g mk a) rfl z0⟩, fun U hU hW => ⟨rfl, by rw [hU], by rw [hU]; exact hPc, va_K.moved hW.alike hKc, hDc.weaken (fun _ _ _ _ => trivial), by rw [hU]; exact EX.warm hW ((hE.kept (fun a h1 h2 => hS.2.1 a h1 h2)).narrow hFc)⟩⟩ rfl rfl hl.1 rfl (lv_room (Nat.le_of_ble_eq_true rfl)) d_AL_grow2_37 ⟨Nat.le_of_ble_eq_true rfl, Nat.le_of_ble_eq_true rfl⟩) hS (fun q _ h => hFc q h) hFc (fun u3 ra6 t H1 locs ht hvm hw5 hB hz1 hk1 hS => ?_)
  obtain ⟨hP1, hK1, hD1⟩ := hB
  rw [ht] at hP1
  have hK1 := va_K.moved hvm.symm hK1
  have hw5 : True := hw5
  obtain ⟨hP, hD⟩ := zz_join (pre := [(x, .inr (14, [.ref ed, .int 33, .int mo])), (ed, .inl (cO, 33, .inr (.inr (.inr (.inr f)))))]) (fz := fz) (wc := [(ed, .inl (cO, 33, .inr (.inr (.inr (.inr f)))))]) (wr := [(x, .inr (14, [.ref ed, .int 33, .int mo]))]) (w1 := ([(ed, .inl (cO, 33, .inr (.inr (.inr (.inr f))))), (ra6, .inl (cO, 49, .inr (.inr (.inr (.inr (va_cpy f (fun _ => none) 0 0 33))))))] ++ fz)) hP hD [1] [0] rfl rfl (by decide) (by decide) hk1 hFc hP1 hD1
  have hK := (hK.sub (tys' := []) [] rfl).app hK1
  generalize H1 = H at hP hS ⊢
  have hP : va_P (dC, dI) vwCl ([(x, .inr (14, [.ref ed, .int 33, .int mo])), (ed, .inl (cO, 33, .inr (.inr (.inr (.inr f))))), (ra6, .inl (cO, 49, .inr (.inr (.inr (.inr (va_cpy f (fun _ => none) 0 0 33))))))] ++ fz) H := hP
  have hD : va_D A ([(x, .inr (14, [.ref ed, .int 33, .int mo])), (ed, .inl (cO, 33, .inr (.inr (.inr (.inr f))))), (ra6, .inl (cO, 49, .inr (.inr (.inr (.inr (va_cpy f (fun _ => none) 0 0 33))))))] ++ fz) := hD
  have hK : va_K (dC, dI) vwCl [(cO, .object "java/lang/Object")] s := hK
  refine W.widen (k := 1) (n := 49) (Nat.le_of_ble_eq_true rfl) (Nat.le_of_ble_eq_true rfl) ?_
  refine lv_dup_x1 hx hb d_AL_grow2_40 rfl rfl ?_
  refine va_put (D := (dC, dI)) (ci := 14) (v := .ref ra6) (ty := (.array (.object "java/lang/Object"))) (C := R_AL) (T := T_AL) (N := 3) hx hb htb in_AL ty_AL ty_AL_ok nm_AL hown hK hP hD hS 0 rfl rfl 0 (by decide) (htb _ m_87) (fun _ h9 => h9) rfl (by decide +kernel) rfl rfl (Nat.le_of_ble_eq_true rfl) d_AL_grow2_41 (fun H locs hP hD hS => ?_)
  have hP : va_P (dC, dI) vwCl ([(x, .inr (14, [.ref ra6, .int 33, .int mo])), (ed, .inl (cO, 33, .inr (.inr (.inr (.inr f))))), (ra6, .inl (cO, 49, .inr (.inr (.inr (.inr (va_cpy f (fun _ => none) 0 0 33))))))] ++ fz) H := hP
  have hD : va_D A ([(x, .inr (14, [.ref ra6, .int 33, .int mo])), (ed, .inl (cO, 33, .inr (.inr (.inr (.inr f))))), (ra6, .inl (cO, 49, .inr (.inr (.inr (.inr (va_cpy f (fun _ => none) 0 0 33))))))] ++ fz) := hD
  have hP9 := zz_pickP (pre := [(x, .inr (14, [.ref ra6, .int 33, .int mo])), (ed, .inl (cO, 33, .inr (.inr (.inr (.inr f))))), (ra6, .inl (cO, 49, .inr (.inr (.inr (.inr (va_cpy f (fun _ => none) 0 0 33))))))]) (fz := fz) (wc := [(x, .inr (14, [.ref ra6, .int 33, .int mo])), (ra6, .inl (cO, 49, .inr (.inr (.inr (.inr (va_cpy f (fun _ => none) 0 0 33))))))]) hP [0, 2] rfl
  have hD9 := zz_pickD (pre := [(x, .inr (14, [.ref ra6, .int 33, .int mo])), (ed, .inl (cO, 33, .inr (.inr (.inr (.inr f))))), (ra6, .inl (cO, 49, .inr (.inr (.inr (.inr (va_cpy f (fun _ => none) 0 0 33))))))]) (fz := fz) (wc := [(x, .inr (14, [.ref ra6, .int 33, .int mo])), (ra6, .inl (cO, 49, .inr (.inr (.inr (.inr (va_cpy f (fun _ => none) 0 0 33))))))]) hD [0, 2] (by decide) rfl
  have hK9 := hK.sub (tys' := [(cO, .object "java/lang/Object")]) [0] rfl
  refine W.widen (k := 1) (n := 49) (Nat.le_of_ble_eq_true rfl) (Nat.le_of_ble_eq_true rfl) ?_
  exact W.aret (v := .ref ra6) hx hb hr (Or.inr ⟨_, rfl⟩) (Or.inr ⟨_, rfl⟩) (fun t ht hW => ⟨⟨(), ra6, rfl, trivial, ⟨by rw [ht]; exact hP9, va_K.moved hW.alike hK9, hD9⟩⟩, hS.F ht⟩) hS.2.2 d_AL_grow2_44
set_option maxHeartbeats 1000000 in
set_option maxRecDepth 100000 in
/-- grow() -/
theorem k_AL_grow_33 (l : Launch) (dC : Nat → ClassId) (dI : Nat → Nat → Nat) (sz : Nat) (x : Nat) (mo : Int32) (ed : Nat) (cO : ClassId) (f : Nat → Option Nat) (ci : Nat) (em : Nat) (aK : Nat → Nat) (aV : Nat → Nat) (fz : va_W) (hci : Oci ci) (hel : ∀ i, i < 33 → ∀ y, f i = some y → Vin ci fz y) : Met l y_AL_grow ws_AL_grow ({ frames := 4, cells := 1, slots := 49, locals := 107 }) (va_Pc [.ref x] (fun U => U.heap.size = sz ∧ va_P (dC, dI) vwCl ([(x, .inr (14, [.ref ed, .int 33, .int mo])), (ed, .inl (cO, 33, .inr (.inr (.inr (.inr f)))))] ++ fz) U.heap ∧ va_K (dC, dI) vwCl [(cO, .object "java/lang/Object")] U ∧ va_D (fun _ => True) ([(x, .inr (14, [.ref ed, .int 33, .int mo])), (ed, .inl (cO, 33, .inr (.inr (.inr (.inr f)))))] ++ fz) ∧ EX em aK aV (va_A ([(x, .inr (14, [.ref ed, .int 33, .int mo])), (ed, .inl (cO, 33, .inr (.inr (.inr (.inr f)))))] ++ fz) sz) U U.heap)) (va_Qr (fun (u : Unit) => True) (fun u ra t => va_P (dC, dI) vwCl ([(x, .inr (14, [.ref ra, .int 33, .int mo])), (ra, .inl (cO, 49, .inr (.inr (.inr (.inr (va_cpy f (fun _ => none) 0 0 33))))))] ++ fz) t.heap ∧ va_K (dC, dI) vwCl [(cO, .object "java/lang/Object")] t ∧ va_D (va_A ([(x, .inr (14, [.ref ed, .int 33, .int mo])), (ed, .inl (cO, 33, .inr (.inr (.inr (.inr f)))))] ++ fz) sz) ([(x, .inr (14, [.ref ra, .int 33, .int mo])), (ra, .inl (cO, 49, .inr (.inr (.inr (.inr (va_cpy f (fun _ => none) 0 0 33))))))] ++ fz)) (va_A ([(x, .inr (14, [.ref ed, .int 33, .int mo])), (ed, .inl (cO, 33, .inr (.inr (.inr (.inr f)))))] ++ fz) sz)) 1 49 (va_A ([(x, .inr (14, [.ref ed, .int 33, .int mo])), (ed, .inl (cO, 33, .inr (.inr (.inr (.inr f)))))] ++ fz) sz) := by
  refine Met.ofW (cc := c_AL_grow) (maxL := 1) (ret := (some (.array (.object "java/lang/Object")))) (by decide) rfl ?_
  intro p e s m args below meth c s₁ B hml hv
  obtain ⟨rfl, hsz, hP, hK, hD0, hE⟩ := hv
  have hx := B.exec
  have hb := B.bytes
  have hr := B.returns
  have hts := atoms_spec (ws := ws_AL_grow) B.pre
  have htb := fun w (h : w ∈ TBL) => hts w (List.mem_cons_of_mem _ h)
  have hown : s.vm.findClass R_AL = some m.cls := findClass_of_methodNamed B.named
  have hlocks := B.notSynchronized
  subst hsz
  have hD := hD0.self (sz := s.heap.size)
  generalize hAe : va_A ([(x, .inr (14, [.ref ed, .int 33, .int mo])), (ed, .inl (cO, 33, .inr (.inr (.inr (.inr f)))))] ++ fz) s.heap.size = A at hD hE ⊢
  have hA : ∀ q : Nat, s.heap.size ≤ q → A q := fun q h => by rw [← hAe]; exact Or.inr h
  have hS : va_S A s.heap s.heap [] := va_S.rf
  have hP : va_P (dC, dI) vwCl ([(x, .inr (14, [.ref ed, .int 33, .int mo])), (ed, .inl (cO, 33, .inr (.inr (.inr (.inr f)))))] ++ fz) s.heap := hP
  have hl := lv_entry ([.ref x]) (n := 1) (Nat.le_of_ble_eq_true rfl)
  rw [lg_entry_eq]
  generalize (lg_sl ([.ref x]) ++ List.replicate (1 - (lg_sl ([.ref x])).length) Slot.unset).toArray = ls at hl ⊢
  have hl : lv_has ls 1 [(0, .ref x)] := hl
  refine lv_aload_n hx hb d_AL_grow_0 rfl (lv_at hl 0 rfl) ?_
  refine lv_aload_n hx hb d_AL_grow_1 rfl (lv_at hl 0 rfl) ?_
  refine va_get (D := (dC, dI)) (ci := 14) (v := .int 33) (C := R_AL) (T := T_AL) (N := 3) hx hb htb in_AL hown hK hP 0 rfl rfl 1 (by decide) (htb _ m_88) (fun _ h9 => h9) rfl d_AL_grow_2 ?_
  refine lv_iconst (v := 1) hx hb d_AL_grow_5 (by decide) ?_
  refine lv_iadd hx hb d_AL_grow_6 ?_
  refine W.eq (congrArg (fun z => F0 m 7 ls (.int z :: [.ref x])) (by decide : ((33 : Int32) + 1) = 34)) ?_
  have hPc := zz_pickP (pre := [(x, .inr (14, [.ref ed, .int 33, .int mo])), (ed, .inl (cO, 33, .inr (.inr (.inr (.inr f)))))]) (fz := fz) (wc := [(x, .inr (14, [.ref ed, .int 33, .int mo])), (ed, .inl (cO, 33, .inr (.inr (.inr (.inr f)))))]) hP [0, 1] rfl
  have hDc := zz_pickD (pre := [(x, .inr (14, [.ref ed, .int 33, .int mo])), (ed, .inl (cO, 33, .inr (.inr (.inr (.inr f)))))]) (fz := fz) (wc := [(x, .inr (14, [.ref ed, .int 33, .int mo])), (ed, .inl (cO, 33, .inr (.inr (.inr (.inr f)))))]) hD [0, 1] (by decide) rfl
  have hFc := zz_free (pre := [(x, .inr (14, [.ref ed, .int 33, .int mo])), (ed, .inl (cO, 33, .inr (.inr (.inr (.inr f)))))]) (fz := fz) (wc := [(x, .inr (14, [.ref ed, .int 33, .int mo])), (ed, .inl (cO, 33, .inr (.inr (.inr (.inr f)))))]) hD hS hA [0, 1] rfl
  have hKc := hK.sub (tys' := [(cO, .object "java/lang/Object")]) [0] rfl
  refine va_callr (va_runV (As := [.int 34]) (rest := []) ⟨hx, hb, hml, hown, htb⟩ (k_AL_grow2_33 l dC dI _ x mo ed cO f ci em aK aV fz hci hel) (cwV 1 htb (g_V (fun _ h => h) m_537 m_534 m_536 m_1632 m_8) rfl rfl rfl (by decide +kernel) ⟨Nat.le_of_ble_eq_true rfl, Nat.le_of_ble_eq_true rfl⟩) ⟨fun a U g mk q => by obtain ⟨q0, q1, qP, qK, qD, z0⟩ := q; exact ⟨q0, q1, qP, va_K.moved (u := U) (U := U.calling g mk a) (Vm.Alike.refl U.vm) qK, qD, EX.same (U := U) (U' := U.calling g mk a) rfl z0⟩, va_recv hK hP (ci := 14) rfl (q0 := 0) rfl, fun U hU hW => ⟨rfl, by rw [hU], by rw [hU]; exact hPc, va_K.moved hW.alike hKc, hDc.weaken (fun _ _ _ _ => trivial), by rw [hU]; exact EX.warm hW ((hE.kept (fun a h1 h2 => hS.2.1 a h1 h2)).narrow hFc)⟩⟩ rfl rfl hl.1 rfl (lv_room (Nat.le_of_ble_eq_true rfl)) d_AL_grow_7 ⟨Nat.le_of_ble_eq_true rfl, Nat.le_of_ble_eq_true rfl⟩) hS (fun q _ h => hFc q h) hFc (fun u1 ra4 t H1 locs ht hvm hw3 hB hz1 hk1 hS => ?_)
  obtain ⟨hP1, hK1, hD1⟩ := hB
  rw [ht] at hP1
  have hK1 := va_K.moved hvm.symm hK1
  have hw3 : True := hw3
  obtain ⟨hP, hD⟩ := zz_join (pre := [(x, .inr (14, [.ref ed, .int 33, .int mo])), (ed, .inl (cO, 33, .inr (.inr (.inr (.inr f)))))]) (fz := fz) (wc := [(x, .inr (14, [.ref ed, .int 33, .int mo])), (ed, .inl (cO, 33, .inr (.inr (.inr (.inr f)))))]) (wr := []) (w1 := ([(x, .inr (14, [.ref ra4, .int 33, .int mo])), (ra4, .inl (cO, 49, .inr (.inr (.inr (.inr (va_cpy f (fun _ => none) 0 0 33))))))] ++ fz)) hP hD [0, 1] [] rfl rfl (by decide) (by decide) hk1 hFc hP1 hD1
  have hK := (hK.sub (tys' := []) [] rfl).app hK1
  generalize H1 = H at hP hS ⊢
  have hP : va_P (dC, dI) vwCl ([(x, .inr (14, [.ref ra4, .int 33, .int mo])), (ra4, .inl (cO, 49, .inr (.inr (.inr (.inr (va_cpy f (fun _ => none) 0 0 33))))))] ++ fz) H := hP
  have hD : va_D A ([(x, .inr (14, [.ref ra4, .int 33, .int mo])), (ra4, .inl (cO, 49, .inr (.inr (.inr (.inr (va_cpy f (fun _ => none) 0 0 33))))))] ++ fz) := hD
  have hK : va_K (dC, dI) vwCl [(cO, .object "java/lang/Object")] s := hK
  refine W.widen (k := 1) (n := 49) (Nat.le_of_ble_eq_true rfl) (Nat.le_of_ble_eq_true rfl) ?_
  have hP9 := zz_pickP (pre := [(x, .inr (14, [.ref ra4, .int 33, .int mo])), (ra4, .inl (cO, 49, .inr (.inr (.inr (.inr (va_cpy f (fun _ => none) 0 0 33))))))]) (fz := fz) (wc := [(x, .inr (14, [.ref ra4, .int 33, .int mo])), (ra4, .inl (cO, 49, .inr (.inr (.inr (.inr (va_cpy f (fun _ => none) 0 0 33))))))]) hP [0, 1] rfl
  have hD9 := zz_pickD (pre := [(x, .inr (14, [.ref ra4, .int 33, .int mo])), (ra4, .inl (cO, 49, .inr (.inr (.inr (.inr (va_cpy f (fun _ => none) 0 0 33))))))]) (fz := fz) (wc := [(x, .inr (14, [.ref ra4, .int 33, .int mo])), (ra4, .inl (cO, 49, .inr (.inr (.inr (.inr (va_cpy f (fun _ => none) 0 0 33))))))]) hD [0, 1] (by decide) rfl
  have hK9 := hK.sub (tys' := [(cO, .object "java/lang/Object")]) [0] rfl
  refine W.widen (k := 1) (n := 49) (Nat.le_of_ble_eq_true rfl) (Nat.le_of_ble_eq_true rfl) ?_
  exact W.aret (v := .ref ra4) hx hb hr (Or.inr ⟨_, rfl⟩) (Or.inr ⟨_, rfl⟩) (fun t ht hW => ⟨⟨(), ra4, rfl, trivial, ⟨by rw [ht]; exact hP9, va_K.moved hW.alike hK9, hD9⟩⟩, hS.F ht⟩) hS.2.2 d_AL_grow_10
set_option maxHeartbeats 1000000 in
set_option maxRecDepth 100000 in
/-- grow(50) -/
theorem k_AL_grow2_49 (l : Launch) (dC : Nat → ClassId) (dI : Nat → Nat → Nat) (sz : Nat) (x : Nat) (mo : Int32) (ed : Nat) (cO : ClassId) (f : Nat → Option Nat) (ci : Nat) (em : Nat) (aK : Nat → Nat) (aV : Nat → Nat) (fz : va_W) (hci : Oci ci) (hel : ∀ i, i < 49 → ∀ y, f i = some y → Vin ci fz y) : Met l y_AL_grow2 ws_AL_grow2 ({ frames := 3, cells := 1, slots := 73, locals := 84 }) (va_Pc [.ref x, .int 50] (fun U => U.heap.size = sz ∧ va_P (dC, dI) vwCl ([(x, .inr (14, [.ref ed, .int 49, .int mo])), (ed, .inl (cO, 49, .inr (.inr (.inr (.inr f)))))] ++ fz) U.heap ∧ va_K (dC, dI) vwCl [(cO, .object "java/lang/Object")] U ∧ va_D (fun _ => True) ([(x, .inr (14, [.ref ed, .int 49, .int mo])), (ed, .inl (cO, 49, .inr (.inr (.inr (.inr f)))))] ++ fz) ∧ EX em aK aV (va_A ([(x, .inr (14, [.ref ed, .int 49, .int mo])), (ed, .inl (cO, 49, .inr (.inr (.inr (.inr f)))))] ++ fz) sz) U U.heap)) (va_Qr (fun (u : Unit) => True) (fun u ra t => va_P (dC, dI) vwCl ([(x, .inr (14, [.ref ra, .int 49, .int mo])), (ra, .inl (cO, 73, .inr (.inr (.inr (.inr (va_cpy f (fun _ => none) 0 0 49))))))] ++ fz) t.heap ∧ va_K (dC, dI) vwCl [(cO, .object "java/lang/Object")] t ∧ va_D (va_A ([(x, .inr (14, [.ref ed, .int 49, .int mo])), (ed, .inl (cO, 49, .inr (.inr (.inr (.inr f)))))] ++ fz) sz) ([(x, .inr (14, [.ref ra, .int 49, .int mo])), (ra, .inl (cO, 73, .inr (.inr (.inr (.inr (va_cpy f (fun _ => none) 0 0 49))))))] ++ fz)) (va_A ([(x, .inr (14, [.ref ed, .int 49, .int mo])), (ed, .inl (cO, 49, .inr (.inr (.inr (.inr f)))))] ++ fz) sz)) 1 73 (va_A ([(x, .inr (14, [.ref ed, .int 49, .int mo])), (ed, .inl (cO, 49, .inr (.inr (.inr (.inr f)))))] ++ fz) sz) := by
  refine Met.ofW (cc := c_AL_grow2) (maxL := 4) (ret := (some (.array (.object "java/lang/Object")))) (by decide) rfl ?_
  intro p e s m args below meth c s₁ B hml hv
  obtain ⟨rfl, hsz, hP, hK, hD0, hE⟩ := hv
  have hx := B.exec
  have hb := B.bytes
  have hr := B.returns
  have hts := atoms_spec (ws := ws_AL_grow2) B.pre
  have htb := fun w (h : w ∈ TBL) => hts w (List.mem_cons_of_mem _ h)
  have hown : s.vm.findClass R_AL = some m.cls := findClass_of_methodNamed B.named
  have hlocks := B.notSynchronized
  subst hsz
  have hD := hD0.self (sz := s.heap.size)
  generalize hAe : va_A ([(x, .inr (14, [.ref ed, .int 49, .int mo])), (ed, .inl (cO, 49, .inr (.inr (.inr (.inr f)))))] ++ fz) s.heap.size = A at hD hE ⊢
  have hA : ∀ q : Nat, s.heap.size ≤ q → A q := fun q h => by rw [← hAe]; exact Or.inr h
  have hS : va_S A s.heap s.heap [] := va_S.rf
  have hP : va_P (dC, dI) vwCl ([(x, .inr (14, [.ref ed, .int 49, .int mo])), (ed, .inl (cO, 49, .inr (.inr (.inr (.inr f)))))] ++ fz) s.heap := hP
  have hl := lv_entry ([.ref x, .int 50]) (n := 4) (Nat.le_of_ble_eq_true rfl)
  rw [lg_entry_eq]
  generalize (lg_sl ([.ref x, .int 50]) ++ List.replicate (4 - (lg_sl ([.ref x, .int 50])).length) Slot.unset).toArray = ls at hl ⊢
  have hl : lv_has ls 4 [(0, .ref x), (1, .int 50)] := hl
  refine lv_aload_n hx hb d_AL_grow2_0 rfl (lv_at hl 0 rfl) ?_
  refine va_get (D := (dC, dI)) (ci := 14) (v := .ref ed) (C := R_AL) (T := T_AL) (N := 3) hx hb htb in_AL hown hK hP 0 rfl rfl 0 (by decide) (htb _ m_87) (fun _ h9 => h9) rfl d_AL_grow2_1 ?_
  refine va_alen (v := 49) hx hb hK hP 1 0 rfl rfl rfl d_AL_grow2_4 ?_
  refine lv_istore_n hx hb d_AL_grow2_5 rfl hl (by decide) rfl (fun ls hl => ?_)
  have hl : lv_has ls 4 [(2, .int 49), (0, .ref x), (1, .int 50)] := hl
  refine lv_iload_n hx hb d_AL_grow2_6 rfl (lv_at hl 0 rfl) ?_
  refine lv_if_gt (tgt := 20) hx hb d_AL_grow2_7 rfl (fun _ => ?_) (fun h9 => absurd (by decide) h9)
  refine lv_iload_n hx hb d_AL_grow2_20 rfl (lv_at hl 0 rfl) ?_
  refine lv_iload_n hx hb d_AL_grow2_21 rfl (lv_at hl 2 rfl) ?_
  refine lv_iload_n hx hb d_AL_grow2_22 rfl (lv_at hl 0 rfl) ?_
  refine lv_isub hx hb d_AL_grow2_23 ?_
  refine W.eq (congrArg (fun z => F0 m 24 ls (.int z :: [.int 49])) (by decide : ((50 : Int32) - 49) = 1)) ?_
  refine lv_iload_n hx hb d_AL_grow2_24 rfl (lv_at hl 0 rfl) ?_
  refine lv_iconst (v := 1) hx hb d_AL_grow2_25 (by decide) ?_
  refine lv_ishr hx hb d_AL_grow2_26 ?_
  refine W.eq (congrArg (fun z => F0 m 27 ls (.int z :: [.int 1, .int 49])) (by decide : ((49 : Int32) >>> ((1 : Int32) &&& 31)) = 24)) ?_
  have hPc : va_P (dC, dI) vwCl [] _ := hP.sub (ws' := []) [] rfl
  have hKc := hK.sub (tys' := []) [] rfl
  refine vp_callSi (W.runS (As := [.int (nI 49), .int (nI 1), .int (nI 24)]) (rest := []) ⟨hx, hb, hml, hown, htb⟩ (q_AS_newLength l dC dI 49 1 24 (by decide) (by decide) (by decide) (by decide)) (va_cwS 3 htb (g_S (fun _ h => h) m_210 m_538 m_209 m_12) rfl rfl rfl (by decide +kernel) ⟨Nat.le_of_ble_eq_true rfl, Nat.le_of_ble_eq_true rfl⟩) ⟨fun a U g mk q => by obtain ⟨q0, qP, qK⟩ := q; exact ⟨q0, qP, va_K.moved (u := U) (U := U.calling g mk a) (Vm.Alike.refl U.vm) qK⟩, fun U hU hW => ⟨rfl, by rw [hU]; exact hPc, va_K.moved hW.alike hKc⟩⟩ rfl rfl hl.1 rfl (lv_room (Nat.le_of_ble_eq_true rfl)) d_AL_grow2_27 ⟨Nat.le_of_ble_eq_true rfl, Nat.le_of_ble_eq_true rfl⟩) (fun r1 hw2 => ?_)
  have hw2 : r1 = nI (49 + Nat.max 1 24) := hw2
  obtain rfl : r1 = (73 : Int32) := hw2.trans (by decide)
  refine lv_istore_n hx hb d_AL_grow2_30 rfl hl (by decide) rfl (fun ls hl => ?_)
  have hl : lv_has ls 4 [(3, .int 73), (2, .int 49), (0, .ref x), (1, .int 50)] := hl
  refine lv_aload_n hx hb d_AL_grow2_31 rfl (lv_at hl 2 rfl) ?_
  refine lv_aload_n hx hb d_AL_grow2_32 rfl (lv_at hl 2 rfl) ?_
  refine va_get (D := (dC, dI)) (ci := 14) (v := .ref ed) (C := R_AL) (T := T_AL) (N := 3) hx hb htb in_AL hown hK hP 0 rfl rfl 0 (by decide) (htb _ m_87) (fun _ h9 => h9) rfl d_AL_grow2_33 ?_
  refine lv_iload_n hx hb d_AL_grow2_36 rfl (lv_at hl 0 rfl) ?_
  have hPc := zz_pickP (pre := [(x, .inr (14, [.ref ed, .int 49, .int mo])), (ed, .inl (cO, 49, .inr (.inr (.inr (.inr f)))))]) (fz := fz) (wc := [(ed, .inl (cO, 49, .inr (.inr (.inr (.inr f)))))]) hP [1] rfl
  have hDc := zz_pickD (pre := [(x, .inr (14, [.ref ed, .int 49, .int mo])), (ed, .inl (cO, 49, .inr (.inr (.inr (.inr f)))))]) (fz := fz) (wc := [(ed, .inl (cO, 49, .inr (.inr (.inr (.inr f)))))]) hD [1] (by decide) rfl
  have hFc := zz_free (pre := [(x, .inr (14, [.ref ed, .int 49, .int mo])), (ed, .inl (cO, 49, .inr (.inr (.inr (.inr f)))))]) (fz := fz) (wc := [(ed, .inl (cO, 49, .inr (.inr (.inr (.inr f)))))]) hD hS hA [1] rfl
  have hKc := hK.sub (tys' := [(cO, .object "java/lang/Object")]) [0] rfl
  refine va_callr (va_runS (As := [.ref ed, .int 73]) (rest := [.ref x]) ⟨hx, hb, hml, hown, htb⟩ (k_AR_copyOf2_49 l dC dI _ ed cO f ci em aK aV fz hci hel) (va_cwS 2 htb (g_S (fun _ h => h) m_541 m_539 m_540 m_14) rfl rfl rfl (by decide +kernel) ⟨Nat.le_of_ble_eq_true rfl, Nat.le_of_ble_eq_true rfl⟩) ⟨fun a U g mk q => by obtain ⟨q0, q1, qP, qK, qD, z0⟩ := q; exact ⟨q0, q1, qP, va_K.moved (u := U) (U := U.calling g mk a) (Vm.Alike.refl U.vm) qK, qD, EX.same (U := U) (U' := U.calling g mk a) rfl z0⟩, fun U hU hW => ⟨rfl, by rw [hU], by rw [hU]; exact hPc, va_K.moved hW.alike hKc, hDc.weaken (fun _ _ _ _ => trivial), by rw [hU]; exact EX.warm hW ((hE.kept (fun a h1 h2 => hS.2.1 a h1 h2)).narrow hFc)⟩⟩ rfl rfl hl.1 rfl (lv_room (Nat.le_of_ble_eq_true rfl)) d_AL_grow2_37 ⟨Nat.le_of_ble_eq_true rfl, Nat.le_of_ble_eq_true rfl⟩) hS (fun q _ h => hFc q h) hFc (fun u3 ra6 t H1 locs ht hvm hw5 hB hz1 hk1 hS => ?_)
  obtain ⟨hP1, hK1, hD1⟩ := hB
  rw [ht] at hP1
  have hK1 := va_K.moved hvm.symm hK1
  have hw5 : True := hw5
  obtain ⟨hP, hD⟩ := zz_join (pre := [(x, .inr (14, [.ref ed, .int 49, .int mo])), (ed, .inl (cO, 49, .inr (.inr (.inr (.inr f)))))]) (fz := fz) (wc := [(ed, .inl (cO, 49, .inr (.inr (.inr (.inr f)))))]) (wr := [(x, .inr (14, [.ref ed, .int 49, .int mo]))]) (w1 := ([(ed, .inl (cO, 49, .inr (.inr (.inr (.inr f))))), (ra6, .inl (cO, 73, .inr (.inr (.inr (.inr (va_cpy f (fun _ => none) 0 0 49))))))] ++ fz)) hP hD [1] [0] rfl rfl (by decide) (by decide) hk1 hFc hP1 hD1
  have hK := (hK.sub (tys' := []) [] rfl).app hK1
  generalize H1 = H at hP hS ⊢
  have hP : va_P (dC, dI) vwCl ([(x, .inr (14, [.ref ed, .int 49, .int mo])), (ed, .inl (cO, 49, .inr (.inr (.inr (.inr f))))), (ra6, .inl (cO, 73, .inr (.inr (.inr (.inr (va_cpy f (fun _ => none) 0 0 49))))))] ++ fz) H := hP
  have hD : va_D A ([(x, .inr (14, [.ref ed, .int 49, .int mo])), (ed, .inl (cO, 49, .inr (.inr (.inr (.inr f))))), (ra6, .inl (cO, 73, .inr (.inr (.inr (.inr (va_cpy f (fun _ => none) 0 0 49))))))] ++ fz) := hD
  have hK : va_K (dC, dI) vwCl [(cO, .object "java/lang/Object")] s := hK
  refine W.widen (k := 1) (n := 73) (Nat.le_of_ble_eq_true rfl) (Nat.le_of_ble_eq_true rfl) ?_
  refine lv_dup_x1 hx hb d_AL_grow2_40 rfl rfl ?_
  refine va_put (D := (dC, dI)) (ci := 14) (v := .ref ra6) (ty := (.array (.object "java/lang/Object"))) (C := R_AL) (T := T_AL) (N := 3) hx hb htb in_AL ty_AL ty_AL_ok nm_AL hown hK hP hD hS 0 rfl rfl 0 (by decide) (htb _ m_87) (fun _ h9 => h9) rfl (by decide +kernel) rfl rfl (Nat.le_of_ble_eq_true rfl) d_AL_grow2_41 (fun H locs hP hD hS => ?_)
  have hP : va_P (dC, dI) vwCl ([(x, .inr (14, [.ref ra6, .int 49, .int mo])), (ed, .inl (cO, 49, .inr (.inr (.inr (.inr f))))), (ra6, .inl (cO, 73, .inr (.inr (.inr (.inr (va_cpy f (fun _ => none) 0 0 49))))))] ++ fz) H := hP
  have hD : va_D A ([(x, .inr (14, [.ref ra6, .int 49, .int mo])), (ed, .inl (cO, 49, .inr (.inr (.inr (.inr f))))), (ra6, .inl (cO, 73, .inr (.inr (.inr (.inr (va_cpy f (fun _ => none) 0 0 49))))))] ++ fz) := hD
  have hP9 := zz_pickP (pre := [(x, .inr (14, [.ref ra6, .int 49, .int mo])), (ed, .inl (cO, 49, .inr (.inr (.inr (.inr f))))), (ra6, .inl (cO, 73, .inr (.inr (.inr (.inr (va_cpy f (fun _ => none) 0 0 49))))))]) (fz := fz) (wc := [(x, .inr (14, [.ref ra6, .int 49, .int mo])), (ra6, .inl (cO, 73, .inr (.inr (.inr (.inr (va_cpy f (fun _ => none) 0 0 49))))))]) hP [0, 2] rfl
  have hD9 := zz_pickD (pre := [(x, .inr (14, [.ref ra6, .int 49, .int mo])), (ed, .inl (cO, 49, .inr (.inr (.inr (.inr f))))), (ra6, .inl (cO, 73, .inr (.inr (.inr (.inr (va_cpy f (fun _ => none) 0 0 49))))))]) (fz := fz) (wc := [(x, .inr (14, [.ref ra6, .int 49, .int mo])), (ra6, .inl (cO, 73, .inr (.inr (.inr (.inr (va_cpy f (fun _ => none) 0 0 49))))))]) hD [0, 2] (by decide) rfl
  have hK9 := hK.sub (tys' := [(cO, .object "java/lang/Object")]) [0] rfl
  refine W.widen (k := 1) (n := 73) (Nat.le_of_ble_eq_true rfl) (Nat.le_of_ble_eq_true rfl) ?_
  exact W.aret (v := .ref ra6) hx hb hr (Or.inr ⟨_, rfl⟩) (Or.inr ⟨_, rfl⟩) (fun t ht hW => ⟨⟨(), ra6, rfl, trivial, ⟨by rw [ht]; exact hP9, va_K.moved hW.alike hK9, hD9⟩⟩, hS.F ht⟩) hS.2.2 d_AL_grow2_44
set_option maxHeartbeats 1000000 in
set_option maxRecDepth 100000 in
/-- grow() -/
theorem k_AL_grow_49 (l : Launch) (dC : Nat → ClassId) (dI : Nat → Nat → Nat) (sz : Nat) (x : Nat) (mo : Int32) (ed : Nat) (cO : ClassId) (f : Nat → Option Nat) (ci : Nat) (em : Nat) (aK : Nat → Nat) (aV : Nat → Nat) (fz : va_W) (hci : Oci ci) (hel : ∀ i, i < 49 → ∀ y, f i = some y → Vin ci fz y) : Met l y_AL_grow ws_AL_grow ({ frames := 4, cells := 1, slots := 73, locals := 107 }) (va_Pc [.ref x] (fun U => U.heap.size = sz ∧ va_P (dC, dI) vwCl ([(x, .inr (14, [.ref ed, .int 49, .int mo])), (ed, .inl (cO, 49, .inr (.inr (.inr (.inr f)))))] ++ fz) U.heap ∧ va_K (dC, dI) vwCl [(cO, .object "java/lang/Object")] U ∧ va_D (fun _ => True) ([(x, .inr (14, [.ref ed, .int 49, .int mo])), (ed, .inl (cO, 49, .inr (.inr (.inr (.inr f)))))] ++ fz) ∧ EX em aK aV (va_A ([(x, .inr (14, [.ref ed, .int 49, .int mo])), (ed, .inl (cO, 49, .inr (.inr (.inr (.inr f)))))] ++ fz) sz) U U.heap)) (va_Qr (fun (u : Unit) => True) (fun u ra t => va_P (dC, dI) vwCl ([(x, .inr (14, [.ref ra, .int 49, .int mo])), (ra, .inl (cO, 73, .inr (.inr (.inr (.inr (va_cpy f (fun _ => none) 0 0 49))))))] ++ fz) t.heap ∧ va_K (dC, dI) vwCl [(cO, .object "java/lang/Object")] t ∧ va_D (va_A ([(x, .inr (14, [.ref ed, .int 49, .int mo])), (ed, .inl (cO, 49, .inr (.inr (.inr (.inr f)))))] ++ fz) sz) ([(x, .inr (14, [.ref ra, .int 49, .int mo])), (ra, .inl (cO, 73, .inr (.inr (.inr (.inr (va_cpy f (fun _ => none) 0 0 49))))))] ++ fz)) (va_A ([(x, .inr (14, [.ref ed, .int 49, .int mo])), (ed, .inl (cO, 49, .inr (.inr (.inr (.inr f)))))] ++ fz) sz)) 1 73 (va_A ([(x, .inr (14, [.ref ed, .int 49, .int mo])), (ed, .inl (cO, 49, .inr (.inr (.inr (.inr f)))))] ++ fz) sz) := by
  refine Met.ofW (cc := c_AL_grow) (maxL := 1) (ret := (some (.array (.object "java/lang/Object")))) (by decide) rfl ?_
  intro p e s m args below meth c s₁ B hml hv
  obtain ⟨rfl, hsz, hP, hK, hD0, hE⟩ := hv
  have hx := B.exec
  have hb := B.bytes
  have hr := B.returns
  have hts := atoms_spec (ws := ws_AL_grow) B.pre
  have htb := fun w (h : w ∈ TBL) => hts w (List.mem_cons_of_mem _ h)
  have hown : s.vm.findClass R_AL = some m.cls := findClass_of_methodNamed B.named
  have hlocks := B.notSynchronized
  subst hsz
  have hD := hD0.self (sz := s.heap.size)
  generalize hAe : va_A ([(x, .inr (14, [.ref ed, .int 49, .int mo])), (ed, .inl (cO, 49, .inr (.inr (.inr (.inr f)))))] ++ fz) s.heap.size = A at hD hE ⊢
  have hA : ∀ q : Nat, s.heap.size ≤ q → A q := fun q h => by rw [← hAe]; exact Or.inr h
  have hS : va_S A s.heap s.heap [] := va_S.rf
  have hP : va_P (dC, dI) vwCl ([(x, .inr (14, [.ref ed, .int 49, .int mo])), (ed, .inl (cO, 49, .inr (.inr (.inr (.inr f)))))] ++ fz) s.heap := hP
  have hl := lv_entry ([.ref x]) (n := 1) (Nat.le_of_ble_eq_true rfl)
  rw [lg_entry_eq]
  generalize (lg_sl ([.ref x]) ++ List.replicate (1 - (lg_sl ([.ref x])).length) Slot.unset).toArray = ls at hl ⊢
  have hl : lv_has ls 1 [(0, .ref x)] := hl
  refine lv_aload_n hx hb d_AL_grow_0 rfl (lv_at hl 0 rfl) ?_
  refine lv_aload_n hx hb d_AL_grow_1 rfl (lv_at hl 0 rfl) ?_
  refine va_get (D := (dC, dI)) (ci := 14) (v := .int 49) (C := R_AL) (T := T_AL) (N := 3) hx hb htb in_AL hown hK hP 0 rfl rfl 1 (by decide) (htb _ m_88) (fun _ h9 => h9) rfl d_AL_grow_2 ?_
  refine lv_iconst (v := 1) hx hb d_AL_grow_5 (by decide) ?_
  refine lv_iadd hx hb d_AL_grow_6 ?_
  refine W.eq (congrArg (fun z => F0 m 7 ls (.int z :: [.ref x])) (by decide : ((49 : Int32) + 1) = 50)) ?_
  have hPc := zz_pickP (pre := [(x, .inr (14, [.ref ed, .int 49, .int mo])), (ed, .inl (cO, 49, .inr (.inr (.inr (.inr f)))))]) (fz := fz) (wc := [(x, .inr (14, [.ref ed, .int 49, .int mo])), (ed, .inl (cO, 49, .inr (.inr (.inr (.inr f)))))]) hP [0, 1] rfl
  have hDc := zz_pickD (pre := [(x, .inr (14, [.ref ed, .int 49, .int mo])), (ed, .inl (cO, 49, .inr (.inr (.inr (.inr f)))))]) (fz := fz) (wc := [(x, .inr (14, [.ref ed, .int 49, .int mo])), (ed, .inl (cO, 49, .inr (.inr (.inr (.inr f)))))]) hD [0, 1] (by decide) rfl
  have hFc := zz_free (pre := [(x, .inr (14, [.ref ed, .int 49, .int mo])), (ed, .inl (cO, 49, .inr (.inr (.inr (.inr f)))))]) (fz := fz) (wc := [(x, .inr (14, [.ref ed, .int 49, .int mo])), (ed, .inl (cO, 49, .inr (.inr (.inr (.inr f)))))]) hD hS hA [0, 1] rfl
  have hKc := hK.sub (tys' := [(cO, .object "java/lang/Object")]) [0] rfl
  refine va_callr (va_runV (As := [.int 50]) (rest := []) ⟨hx, hb, hml, hown, htb⟩ (k_AL_grow2_49 l dC dI _ x mo ed cO f ci em aK aV fz hci hel) (cwV 1 htb (g_V (fun _ h => h) m_537 m_534 m_536 m_1632 m_8) rfl rfl rfl (by decide +kernel) ⟨Nat.le_of_ble_eq_true rfl, Nat.le_of_ble_eq_true rfl⟩) ⟨fun a U g mk q => by obtain ⟨q0, q1, qP, qK, qD, z0⟩ := q; exact ⟨q0, q1, qP, va_K.moved (u := U) (U := U.calling g mk a) (Vm.Alike.refl U.vm) qK, qD, EX.same (U := U) (U' := U.calling g mk a) rfl z0⟩, va_recv hK hP (ci := 14) rfl (q0 := 0) rfl, fun U hU hW => ⟨rfl, by rw [hU], by rw [hU]; exact hPc, va_K.moved hW.alike hKc, hDc.weaken (fun _ _ _ _ => trivial), by rw [hU]; exact EX.warm hW ((hE.kept (fun a h1 h2 => hS.2.1 a h1 h2)).narrow hFc)⟩⟩ rfl rfl hl.1 rfl (lv_room (Nat.le_of_ble_eq_true rfl)) d_AL_grow_7 ⟨Nat.le_of_ble_eq_true rfl, Nat.le_of_ble_eq_true rfl⟩) hS (fun q _ h => hFc q h) hFc (fun u1 ra4 t H1 locs ht hvm hw3 hB hz1 hk1 hS => ?_)
  obtain ⟨hP1, hK1, hD1⟩ := hB
  rw [ht] at hP1
  have hK1 := va_K.moved hvm.symm hK1
  have hw3 : True := hw3
  obtain ⟨hP, hD⟩ := zz_join (pre := [(x, .inr (14, [.ref ed, .int 49, .int mo])), (ed, .inl (cO, 49, .inr (.inr (.inr (.inr f)))))]) (fz := fz) (wc := [(x, .inr (14, [.ref ed, .int 49, .int mo])), (ed, .inl (cO, 49, .inr (.inr (.inr (.inr f)))))]) (wr := []) (w1 := ([(x, .inr (14, [.ref ra4, .int 49, .int mo])), (ra4, .inl (cO, 73, .inr (.inr (.inr (.inr (va_cpy f (fun _ => none) 0 0 49))))))] ++ fz)) hP hD [0, 1] [] rfl rfl (by decide) (by decide) hk1 hFc hP1 hD1
  have hK := (hK.sub (tys' := []) [] rfl).app hK1
  generalize H1 = H at hP hS ⊢
  have hP : va_P (dC, dI) vwCl ([(x, .inr (14, [.ref ra4, .int 49, .int mo])), (ra4, .inl (cO, 73, .inr (.inr (.inr (.inr (va_cpy f (fun _ => none) 0 0 49))))))] ++ fz) H := hP
  have hD : va_D A ([(x, .inr (14, [.ref ra4, .int 49, .int mo])), (ra4, .inl (cO, 73, .inr (.inr (.inr (.inr (va_cpy f (fun _ => none) 0 0 49))))))] ++ fz) := hD
  have hK : va_K (dC, dI) vwCl [(cO, .object "java/lang/Object")] s := hK
  refine W.widen (k := 1) (n := 73) (Nat.le_of_ble_eq_true rfl) (Nat.le_of_ble_eq_true rfl) ?_
  have hP9 := zz_pickP (pre := [(x, .inr (14, [.ref ra4, .int 49, .int mo])), (ra4, .inl (cO, 73, .inr (.inr (.inr (.inr (va_cpy f (fun _ => none) 0 0 49))))))]) (fz := fz) (wc := [(x, .inr (14, [.ref ra4, .int 49, .int mo])), (ra4, .inl (cO, 73, .inr (.inr (.inr (.inr (va_cpy f (fun _ => none) 0 0 49))))))]) hP [0, 1] rfl
  have hD9 := zz_pickD (pre := [(x, .inr (14, [.ref ra4, .int 49, .int mo])), (ra4, .inl (cO, 73, .inr (.inr (.inr (.inr (va_cpy f (fun _ => none) 0 0 49))))))]) (fz := fz) (wc := [(x, .inr (14, [.ref ra4, .int 49, .int mo])), (ra4, .inl (cO, 73, .inr (.inr (.inr (.inr (va_cpy f (fun _ => none) 0 0 49))))))]) hD [0, 1] (by decide) rfl
  have hK9 := hK.sub (tys' := [(cO, .object "java/lang/Object")]) [0] rfl
  refine W.widen (k := 1) (n := 73) (Nat.le_of_ble_eq_true rfl) (Nat.le_of_ble_eq_true rfl) ?_
  exact W.aret (v := .ref ra4) hx hb hr (Or.inr ⟨_, rfl⟩) (Or.inr ⟨_, rfl⟩) (fun t ht hW => ⟨⟨(), ra4, rfl, trivial, ⟨by rw [ht]; exact hP9, va_K.moved hW.alike hK9, hD9⟩⟩, hS.F ht⟩) hS.2.2 d_AL_grow_10
set_option maxHeartbeats 1000000 in
set_option maxRecDepth 100000 in
/-- grow(74) -/
theorem k_AL_grow2_73 (l : Launch) (dC : Nat → ClassId) (dI : Nat → Nat → Nat) (sz : Nat) (x : Nat) (mo : Int32) (ed : Nat) (cO : ClassId) (f : Nat → Option Nat) (ci : Nat) (em : Nat) (aK : Nat → Nat) (aV : Nat → Nat) (fz : va_W) (hci : Oci ci) (hel : ∀ i, i < 73 → ∀ y, f i = some y → Vin ci fz y) : Met l y_AL_grow2 ws_AL_grow2 ({ frames := 3, cells := 1, slots := 109, locals := 84 }) (va_Pc [.ref x, .int 74] (fun U => U.heap.size = sz ∧ va_P (dC, dI) vwCl ([(x, .inr (14, [.ref ed, .int 73, .int mo])), (ed, .inl (cO, 73, .inr (.inr (.inr (.inr f)))))] ++ fz) U.heap ∧ va_K (dC, dI) vwCl [(cO, .object "java/lang/Object")] U ∧ va_D (fun _ => True) ([(x, .inr (14, [.ref ed, .int 73, .int mo])), (ed, .inl (cO, 73, .inr (.inr (.inr (.inr f)))))] ++ fz) ∧ EX em aK aV (va_A ([(x, .inr (14, [.ref ed, .int 73, .int mo])), (ed, .inl (cO, 73, .inr (.inr (.inr (.inr f)))))] ++ fz) sz) U U.heap)) (va_Qr (fun (u : Unit) => True) (fun u ra t => va_P (dC, dI) vwCl ([(x, .inr (14, [.ref ra, .int 73, .int mo])), (ra, .inl (cO, 109, .inr (.inr (.inr (.inr (va_cpy f (fun _ => none) 0 0 73))))))] ++ fz) t.heap ∧ va_K (dC, dI) vwCl [(cO, .object "java/lang/Object")] t ∧ va_D (va_A ([(x, .inr (14, [.ref ed, .int 73, .int mo])), (ed, .inl (cO, 73, .inr (.inr (.inr (.inr f)))))] ++ fz) sz) ([(x, .inr (14, [.ref ra, .int 73, .int mo])), (ra, .inl (cO, 109, .inr (.inr (.inr (.inr (va_cpy f (fun _ => none) 0 0 73))))))] ++ fz)) (va_A ([(x, .inr (14, [.ref ed, .int 73, .int mo])), (ed, .inl (cO, 73, .inr (.inr (.inr (.inr f)))))] ++ fz) sz)) 1 109 (va_A ([(x, .inr (14, [.ref ed, .int 73, .int mo])), (ed, .inl (cO, 73, .inr (.inr (.inr (.inr f)))))] ++ fz) sz) := by
  refine Met.ofW (cc := c_AL_grow2) (maxL := 4) (ret := (some (.array (.object "java/lang/Object")))) (by decide) rfl ?_
  intro p e s m args below meth c s₁ B hml hv
  obtain ⟨rfl, hsz, hP, hK, hD0, hE⟩ := hv
  have hx := B.exec
  have hb := B.bytes
  have hr := B.returns
  have hts := atoms_spec (ws := ws_AL_grow2) B.pre
  have htb := fun w (h : w ∈ TBL) => hts w (List.mem_cons_of_mem _ h)
  have hown : s.vm.findClass R_AL = some m.cls := findClass_of_methodNamed B.named
  have hlocks := B.notSynchronized
  subst hsz
  have hD := hD0.self (sz := s.heap.size)
  generalize hAe : va_A ([(x, .inr (14, [.ref ed, .int 73, .int mo])), (ed, .inl (cO, 73, .inr (.inr (.inr (.inr f)))))] ++ fz) s.heap.size = A at hD hE ⊢
  have hA : ∀ q : Nat, s.heap.size ≤ q → A q := fun q h => by rw [← hAe]; exact Or.inr h
  have hS : va_S A s.heap s.heap [] := va_S.rf
  have hP : va_P (dC, dI) vwCl ([(x, .inr (14, [.ref ed, .int 73, .int mo])), (ed, .inl (cO, 73, .inr (.inr (.inr (.inr f)))))] ++ fz) s.heap := hP
  have hl := lv_entry ([.ref x, .int 74]) (n := 4) (Nat.le_of_ble_eq_true rfl)
  rw [lg_entry_eq]
  generalize (lg_sl ([.ref x, .int 74]) ++ List.replicate (4 - (lg_sl ([.ref x, .int 74])).length) Slot.unset).toArray = ls at hl ⊢
  have hl : lv_has ls 4 [(0, .ref x), (1, .int 74)] := hl
  refine lv_aload_n hx hb d_AL_grow2_0 rfl (lv_at hl 0 rfl) ?_
  refine va_get (D := (dC, dI)) (ci := 14) (v := .ref ed) (C := R_AL) (T := T_AL) (N := 3) hx hb htb in_AL hown hK hP 0 rfl rfl 0 (by decide) (htb _ m_87) (fun _ h9 => h9) rfl d_AL_grow2_1 ?_
  refine va_alen (v := 73) hx hb hK hP 1 0 rfl rfl rfl d_AL_grow2_4 ?_
  refine lv_istore_n hx hb d_AL_grow2_5 rfl hl (by decide) rfl (fun ls hl => ?_)
  have hl : lv_has ls 4 [(2, .int 73), (0, .ref x), (1, .int 74)] := hl
  refine lv_iload_n hx hb d_AL_grow2_6 rfl (lv_at hl 0 rfl) ?_
  refine lv_if_gt (tgt := 20) hx hb d_AL_grow2_7 rfl (fun _ => ?_) (fun h9 => absurd (by decide) h9)
  refine lv_iload_n hx hb d_AL_grow2_20 rfl (lv_at hl 0 rfl) ?_
  refine lv_iload_n hx hb d_AL_grow2_21 rfl (lv_at hl 2 rfl) ?_
  refine lv_iload_n hx hb d_AL_grow2_22 rfl (lv_at hl 0 rfl) ?_
  refine lv_isub hx hb d_AL_grow2_23 ?_
  refine W.eq (congrArg (fun z => F0 m 24 ls (.int z :: [.int 73])) (by decide : ((74 : Int32) - 73) = 1)) ?_
  refine lv_iload_n hx hb d_AL_grow2_24 rfl (lv_at hl 0 rfl) ?_
  refine lv_iconst (v := 1) hx hb d_AL_grow2_25 (by decide) ?_
  refine lv_ishr hx hb d_AL_grow2_26 ?_
  refine W.eq (congrArg (fun z => F0 m 27 ls (.int z :: [.int 1, .int 73])) (by decide : ((73 : Int32) >>> ((1 : Int32) &&& 31)) = 36)) ?_
  have hPc : va_P (dC, dI) vwCl [] _ := hP.sub (ws' := []) [] rfl
  have hKc := hK.sub (tys' := []) [] rfl
  refine vp_callSi (W.runS (As := [.int (nI 73), .int (nI 1), .int (nI 36)]) (rest := []) ⟨hx, hb, hml, hown, htb⟩ (q_AS_newLength l dC dI 73 1 36 (by decide) (by decide) (by decide) (by decide)) (va_cwS 3 htb (g_S (fun _ h => h) m_210 m_538 m_209 m_12) rfl rfl rfl (by decide +kernel) ⟨Nat.le_of_ble_eq_true rfl, Nat.le_of_ble_eq_true rfl⟩) ⟨fun a U g mk q => by obtain ⟨q0, qP, qK⟩ := q; exact ⟨q0, qP, va_K.moved (u := U) (U := U.calling g mk a) (Vm.Alike.refl U.vm) qK⟩, fun U hU hW => ⟨rfl, by rw [hU]; exact hPc, va_K.moved hW.alike hKc⟩⟩ rfl rfl hl.1 rfl (lv_room (Nat.le_of_ble_eq_true rfl)) d_AL_grow2_27 ⟨Nat.le_of_ble_eq_true rfl, Nat.le_of_ble_eq_true rfl⟩) (fun r1 hw2 => ?_)
  have hw2 : r1 = nI (73 + Nat.max 1 36) := hw2
  obtain rfl : r1 = (109 : Int32) := hw2.trans (by decide)
  refine lv_istore_n hx hb d_AL_grow2_30 rfl hl (by decide) rfl (fun ls hl => ?_)
  have hl : lv_has ls 4 [(3, .int 109), (2, .int 73), (0, .ref x), (1, .int 74)] := hl
  refine lv_aload_n hx hb d_AL_grow2_31 rfl (lv_at hl 2 rfl) ?_
  refine lv_aload_n hx hb d_AL_grow2_32 rfl (lv_at hl 2 rfl) ?_
  refine va_get (D := (dC, dI)) (ci := 14) (v := .ref ed) (C := R_AL) (T := T_AL) (N := 3) hx hb htb in_AL hown hK hP 0 rfl rfl 0 (by decide) (htb _ m_87) (fun _ h9 => h9) rfl d_AL_grow2_33 ?_
  refine lv_iload_n hx hb d_AL_grow2_36 rfl (lv_at hl 0 rfl) ?_
  have hPc := zz_pickP (pre := [(x, .inr (14, [.ref ed, .int 73, .int mo])), (ed, .inl (cO, 73, .inr (.inr (.inr (.inr f)))))]) (fz := fz) (wc := [(ed, .inl (cO, 73, .inr (.inr (.inr (.inr f)))))]) hP [1] rfl
  have hDc := zz_pickD (pre := [(x, .inr (14, [.ref ed, .int 73, .int mo])), (ed, .inl (cO, 73, .inr (.inr (.inr (.inr f)))))]) (fz := fz) (wc := [(ed, .inl (cO, 73, .inr (.inr (.inr (.inr f)))))]) hD [1] (by decide) rfl
  have hFc := zz_free (pre := [(x, .inr (14, [.ref ed, .int 73, .int mo])), (ed, .inl (cO, 73, .inr (.inr (.inr (.inr f)))))]) (fz := fz) (wc := [(ed, .inl (cO, 73, .inr (.inr (.inr (.inr f)))))]) hD hS hA [1] rfl
  have hKc := hK.sub (tys' := [(cO, .object "java/lang/Object")]) [0] rfl
  refine va_callr (va_runS (As := [.ref ed, .int 109]) (rest := [.ref x]) ⟨hx, hb, hml, hown, htb⟩ (k_AR_copyOf2_73 l dC dI _ ed cO f ci em aK aV fz hci hel) (va_cwS 2 htb (g_S (fun _ h => h) m_541 m_539 m_540 m_14) rfl rfl rfl (by decide +kernel) ⟨Nat.le_of_ble_eq_true rfl, Nat.le_of_ble_eq_true rfl⟩) ⟨fun a U g mk q => by obtain ⟨q0, q1, qP, qK, qD, z0⟩ := q; exact ⟨q0, q1, qP, va_K.moved (u := U) (U := U.calling g mk a) (Vm.Alike.refl U.vm) qK, qD, EX.same (U := U) (U' := U.calling g mk a) rfl z0⟩, fun U hU hW => ⟨rfl, by rw [hU], by rw [hU]; exact hPc, va_K.moved hW.alike hKc, hDc.weaken (fun _ _ _ _ => trivial), by rw [hU]; exact EX.warm hW ((hE.kept (fun a h1 h2 => hS.2.1 a h1 h2)).narrow hFc)⟩⟩ rfl rfl hl.1 rfl (lv_room (Nat.le_of_ble_eq_true rfl)) d_AL_grow2_37 ⟨Nat.le_of_ble_eq_true rfl, Nat.le_of_ble_eq_true rfl⟩) hS (fun q _ h => hFc q h) hFc (fun u3 ra6 t H1 locs ht hvm hw5 hB hz1 hk1 hS => ?_)
  obtain ⟨hP1, hK1, hD1⟩ := hB
  rw [ht] at hP1
  have hK1 := va_K.moved hvm.symm hK1
  have hw5 : True := hw5
  obtain ⟨hP, hD⟩ := zz_join (pre := [(x, .inr (14, [.ref ed, .int 73, .int mo])), (ed, .inl (cO, 73, .inr (.inr (.inr (.inr f)))))]) (fz := fz) (wc := [(ed, .inl (cO, 73, .inr (.inr (.inr (.inr f)))))]) (wr := [(x, .inr (14, [.ref ed, .int 73, .int mo]))]) (w1 := ([(ed, .inl (cO, 73, .inr (.inr (.inr (.inr f))))), (ra6, .inl (cO, 109, .inr (.inr (.inr (.inr (va_cpy f (fun _ => none) 0 0 73))))))] ++ fz)) hP hD [1] [0] rfl rfl (by decide) (by decide) hk1 hFc hP1 hD1
  have hK := (hK.sub (tys' := []) [] rfl).app hK1
  generalize H1 = H at hP hS ⊢
  have hP : va_P (dC, dI) vwCl ([(x, .inr (14, [.ref ed, .int 73, .int mo])), (ed, .inl (cO, 73, .inr (.inr (.inr (.inr f))))), (ra6, .inl (cO, 109, .inr (.inr (.inr (.inr (va_cpy f (fun _ => none) 0 0 73))))))] ++ fz) H := hP
  have hD : va_D A ([(x, .inr (14, [.ref ed, .int 73, .int mo])), (ed, .inl (cO, 73, .inr (.inr (.inr (.inr f))))), (ra6, .inl (cO, 109, .inr (.inr (.inr (.inr (va_cpy f (fun _ => none) 0 0 73))))))] ++ fz) := hD
  have hK : va_K (dC, dI) vwCl [(cO, .object "java/lang/Object")] s := hK
  refine W.widen (k := 1) (n := 109) (Nat.le_of_ble_eq_true rfl) (Nat.le_of_ble_eq_true rfl) ?_
  refine lv_dup_x1 hx hb d_AL_grow2_40 rfl rfl ?_
  refine va_put (D := (dC, dI)) (ci := 14) (v := .ref ra6) (ty := (.array (.object "java/lang/Object"))) (C := R_AL) (T := T_AL) (N := 3) hx hb htb in_AL ty_AL ty_AL_ok nm_AL hown hK hP hD hS 0 rfl rfl 0 (by decide) (htb _ m_87) (fun _ h9 => h9) rfl (by decide +kernel) rfl rfl (Nat.le_of_ble_eq_true rfl) d_AL_grow2_41 (fun H locs hP hD hS => ?_)
  have hP : va_P (dC, dI) vwCl ([(x, .inr (14, [.ref ra6, .int 73, .int mo])), (ed, .inl (cO, 73, .inr (.inr (.inr (.inr f))))), (ra6, .inl (cO, 109, .inr (.inr (.inr (.inr (va_cpy f (fun _ => none) 0 0 73))))))] ++ fz) H := hP
  have hD : va_D A ([(x, .inr (14, [.ref ra6, .int 73, .int mo])), (ed, .inl (cO, 73, .inr (.inr (.inr (.inr f))))), (ra6, .inl (cO, 109, .inr (.inr (.inr (.inr (va_cpy f (fun _ => none) 0 0 73))))))] ++ fz) := hD
  have hP9 := zz_pickP (pre := [(x, .inr (14, [.ref ra6, .int 73, .int mo])), (ed, .inl (cO, 73, .inr (.inr (.inr (.inr f))))), (ra6, .inl (cO, 109, .inr (.inr (.inr (.inr (va_cpy f (fun _ => none) 0 0 73))))))]) (fz := fz) (wc := [(x, .inr (14, [.ref ra6, .int 73, .int mo])), (ra6, .inl (cO, 109, .inr (.inr (.inr (.inr (va_cpy f (fun _ => none) 0 0 73))))))]) hP [0, 2] rfl
  have hD9 := zz_pickD (pre := [(x, .inr (14, [.ref ra6, .int 73, .int mo])), (ed, .inl (cO, 73, .inr (.inr (.inr (.inr f))))), (ra6, .inl (cO, 109, .inr (.inr (.inr (.inr (va_cpy f (fun _ => none) 0 0 73))))))]) (fz := fz) (wc := [(x, .inr (14, [.ref ra6, .int 73, .int mo])), (ra6, .inl (cO, 109, .inr (.inr (.inr (.inr (va_cpy f (fun _ => none) 0 0 73))))))]) hD [0, 2] (by decide) rfl
  have hK9 := hK.sub (tys' := [(cO, .object "java/lang/Object")]) [0] rfl
  refine W.widen (k := 1) (n := 109) (Nat.le_of_ble_eq_true rfl) (Nat.le_of_ble_eq_true rfl) ?_
  exact W.aret (v := .ref ra6) hx hb hr (Or.inr ⟨_, rfl⟩) (Or.inr ⟨_, rfl⟩) (fun t ht hW => ⟨⟨(), ra6, rfl, trivial, ⟨by rw [ht]; exact hP9, va_K.moved hW.alike hK9, hD9⟩⟩, hS.F ht⟩) hS.2.2 d_AL_grow2_44
set_option maxHeartbeats 1000000 in
set_option maxRecDepth 100000 in
/-- grow() -/
theorem k_AL_grow_73 (l : Launch) (dC : Nat → ClassId) (dI : Nat → Nat → Nat) (sz : Nat) (x : Nat) (mo : Int32) (ed : Nat) (cO : ClassId) (f : Nat → Option Nat) (ci : Nat) (em : Nat) (aK : Nat → Nat) (aV : Nat → Nat) (fz : va_W) (hci : Oci ci) (hel : ∀ i, i < 73 → ∀ y, f i = some y → Vin ci fz y) : Met l y_AL_grow ws_AL_grow ({ frames := 4, cells := 1, slots := 109, locals := 107 }) (va_Pc [.ref x] (fun U => U.heap.size = sz ∧ va_P (dC, dI) vwCl ([(x, .inr (14, [.ref ed, .int 73, .int mo])), (ed, .inl (cO, 73, .inr (.inr (.inr (.inr f)))))] ++ fz) U.heap ∧ va_K (dC, dI) vwCl [(cO, .object "java/lang/Object")] U ∧ va_D (fun _ => True) ([(x, .inr (14, [.ref ed, .int 73, .int mo])), (ed, .inl (cO, 73, .inr (.inr (.inr (.inr f)))))] ++ fz) ∧ EX em aK aV (va_A ([(x, .inr (14, [.ref ed, .int 73, .int mo])), (ed, .inl (cO, 73, .inr (.inr (.inr (.inr f)))))] ++ fz) sz) U U.heap)) (va_Qr (fun (u : Unit) => True) (fun u ra t => va_P (dC, dI) vwCl ([(x, .inr (14, [.ref ra, .int 73, .int mo])), (ra, .inl (cO, 109, .inr (.inr (.inr (.inr (va_cpy f (fun _ => none) 0 0 73))))))] ++ fz) t.heap ∧ va_K (dC, dI) vwCl [(cO, .object "java/lang/Object")] t ∧ va_D (va_A ([(x, .inr (14, [.ref ed, .int 73, .int mo])), (ed, .inl (cO, 73, .inr (.inr (.inr (.inr f)))))] ++ fz) sz) ([(x, .inr (14, [.ref ra, .int 73, .int mo])), (ra, .inl (cO, 109, .inr (.inr (.inr (.inr (va_cpy f (fun _ => none) 0 0 73))))))] ++ fz)) (va_A ([(x, .inr (14, [.ref ed, .int 73, .int mo])), (ed, .inl (cO, 73, .inr (.inr (.inr (.inr f)))))] ++ fz) sz)) 1 109 (va_A ([(x, .inr (14, [.ref ed, .int 73, .int mo])), (ed, .inl (cO, 73, .inr (.inr (.inr (.inr f)))))] ++ fz) sz) := by
  refine Met.ofW (cc := c_AL_grow) (maxL := 1) (ret := (some (.array (.object "java/lang/Object")))) (by decide) rfl ?_
  intro p e s m args below meth c s₁ B hml hv
  obtain ⟨rfl, hsz, hP, hK, hD0, hE⟩ := hv
  have hx := B.exec
  have hb := B.bytes
  have hr := B.returns
  have hts := atoms_spec (ws := ws_AL_grow) B.pre
  have htb := fun w (h : w ∈ TBL) => hts w (List.mem_cons_of_mem _ h)
  have hown : s.vm.findClass R_AL = some m.cls := findClass_of_methodNamed B.named
  have hlocks := B.notSynchronized
  subst hsz
  have hD := hD0.self (sz := s.heap.size)
  generalize hAe : va_A ([(x, .inr (14, [.ref ed, .int 73, .int mo])), (ed, .inl (cO, 73, .inr (.inr (.inr (.inr f)))))] ++ fz) s.heap.size = A at hD hE ⊢
  have hA : ∀ q : Nat, s.heap.size ≤ q → A q := fun q h => by rw [← hAe]; exact Or.inr h
  have hS : va_S A s.heap s.heap [] := va_S.rf
  have hP : va_P (dC, dI) vwCl ([(x, .inr (14, [.ref ed, .int 73, .int mo])), (ed, .inl (cO, 73, .inr (.inr (.inr (.inr f)))))] ++ fz) s.heap := hP
  have hl := lv_entry ([.ref x]) (n := 1) (Nat.le_of_ble_eq_true rfl)
  rw [lg_entry_eq]
  generalize (lg_sl ([.ref x]) ++ List.replicate (1 - (lg_sl ([.ref x])).length) Slot.unset).toArray = ls at hl ⊢
  have hl : lv_has ls 1 [(0, .ref x)] := hl
  refine lv_aload_n hx hb d_AL_grow_0 rfl (lv_at hl 0 rfl) ?_
  refine lv_aload_n hx hb d_AL_grow_1 rfl (lv_at hl 0 rfl) ?_
  refine va_get (D := (dC, dI)) (ci := 14) (v := .int 73) (C := R_AL) (T := T_AL) (N := 3) hx hb htb in_AL hown hK hP 0 rfl rfl 1 (by decide) (htb _ m_88) (fun _ h9 => h9) rfl d_AL_grow_2 ?_
  refine lv_iconst (v := 1) hx hb d_AL_grow_5 (by decide) ?_
  refine lv_iadd hx hb d_AL_grow_6 ?_
  refine W.eq (congrArg (fun z => F0 m 7 ls (.int z :: [.ref x])) (by decide : ((73 : Int32) + 1) = 74)) ?_
  have hPc := zz_pickP (pre := [(x, .inr (14, [.ref ed, .int 73, .int mo])), (ed, .inl (cO, 73, .inr (.inr (.inr (.inr f)))))]) (fz := fz) (wc := [(x, .inr (14, [.ref ed, .int 73, .int mo])), (ed, .inl (cO, 73, .inr (.inr (.inr (.inr f)))))]) hP [0, 1] rfl
  have hDc := zz_pickD (pre := [(x, .inr (14, [.ref ed, .int 73, .int mo])), (ed, .inl (cO, 73, .inr (.inr (.inr (.inr f)))))]) (fz := fz) (wc := [(x, .inr (14, [.ref ed, .int 73, .int mo])), (ed, .inl (cO, 73, .inr (.inr (.inr (.inr f)))))]) hD [0, 1] (by decide) rfl
  have hFc := zz_free (pre := [(x, .inr (14, [.ref ed, .int 73, .int mo])), (ed, .inl (cO, 73, .inr (.inr (.inr (.inr f)))))]) (fz := fz) (wc := [(x, .inr (14, [.ref ed, .int 73, .int mo])), (ed, .inl (cO, 73, .inr (.inr (.inr (.inr f)))))]) hD hS hA [0, 1] rfl
  have hKc := hK.sub (tys' := [(cO, .object "java/lang/Object")]) [0] rfl
  refine va_callr (va_runV (As := [.int 74]) (rest := []) ⟨hx, hb, hml, hown, htb⟩ (k_AL_grow2_73 l dC dI _ x mo ed cO f ci em aK aV fz hci hel) (cwV 1 htb (g_V (fun _ h => h) m_537 m_534 m_536 m_1632 m_8) rfl rfl rfl (by decide +kernel) ⟨Nat.le_of_ble_eq_true rfl, Nat.le_of_ble_eq_true rfl⟩) ⟨fun a U g mk q => by obtain ⟨q0, q1, qP, qK, qD, z0⟩ := q; exact ⟨q0, q1, qP, va_K.moved (u := U) (U := U.calling g mk a) (Vm.Alike.refl U.vm) qK, qD, EX.same (U := U) (U' := U.calling g mk a) rfl z0⟩, va_recv hK hP (ci := 14) rfl (q0 := 0) rfl, fun U hU hW => ⟨rfl, by rw [hU], by rw [hU]; exact hPc, va_K.moved hW.alike hKc, hDc.weaken (fun _ _ _ _ => trivial), by rw [hU]; exact EX.warm hW ((hE.kept (fun a h1 h2 => hS.2.1 a h1 h2)).narrow hFc)⟩⟩ rfl rfl hl.1 rfl (lv_room (Nat.le_of_ble_eq_true rfl)) d_AL_grow_7 ⟨Nat.le_of_ble_eq_true rfl, Nat.le_of_ble_eq_true rfl⟩) hS (fun q _ h => hFc q h) hFc (fun u1 ra4 t H1 locs ht hvm hw3 hB hz1 hk1 hS => ?_)
  obtain ⟨hP1, hK1, hD1⟩ := hB
  rw [ht] at hP1
  have hK1 := va_K.moved hvm.symm hK1
  have hw3 : True := hw3
  obtain ⟨hP, hD⟩ := zz_join (pre := [(x, .inr (14, [.ref ed, .int 73, .int mo])), (ed, .inl (cO, 73, .inr (.inr (.inr (.inr f)))))]) (fz := fz) (wc := [(x, .inr (14, [.ref ed, .int 73, .int mo])), (ed, .inl (cO, 73, .inr (.inr (.inr (.inr f)))))]) (wr := []) (w1 := ([(x, .inr (14, [.ref ra4, .int 73, .int mo])), (ra4, .inl (cO, 109, .inr (.inr (.inr (.inr (va_cpy f (fun _ => none) 0 0 73))))))] ++ fz)) hP hD [0, 1] [] rfl rfl (by decide) (by decide) hk1 hFc hP1 hD1
  have hK := (hK.sub (tys' := []) [] rfl).app hK1
  generalize H1 = H at hP hS ⊢
  have hP : va_P (dC, dI) vwCl ([(x, .inr (14, [.ref ra4, .int 73, .int mo])), (ra4, .inl (cO, 109, .inr (.inr (.inr (.inr (va_cpy f (fun _ => none) 0 0 73))))))] ++ fz) H := hP
  have hD : va_D A ([(x, .inr (14, [.ref ra4, .int 73, .int mo])), (ra4, .inl (cO, 109, .inr (.inr (.inr (.inr (va_cpy f (fun _ => none) 0 0 73))))))] ++ fz) := hD
  have hK : va_K (dC, dI) vwCl [(cO, .object "java/lang/Object")] s := hK
  refine W.widen (k := 1) (n := 109) (Nat.le_of_ble_eq_true rfl) (Nat.le_of_ble_eq_true rfl) ?_
  have hP9 := zz_pickP (pre := [(x, .inr (14, [.ref ra4, .int 73, .int mo])), (ra4, .inl (cO, 109, .inr (.inr (.inr (.inr (va_cpy f (fun _ => none) 0 0 73))))))]) (fz := fz) (wc := [(x, .inr (14, [.ref ra4, .int 73, .int mo])), (ra4, .inl (cO, 109, .inr (.inr (.inr (.inr (va_cpy f (fun _ => none) 0 0 73))))))]) hP [0, 1] rfl
  have hD9 := zz_pickD (pre := [(x, .inr (14, [.ref ra4, .int 73, .int mo])), (ra4, .inl (cO, 109, .inr (.inr (.inr (.inr (va_cpy f (fun _ => none) 0 0 73))))))]) (fz := fz) (wc := [(x, .inr (14, [.ref ra4, .int 73, .int mo])), (ra4, .inl (cO, 109, .inr (.inr (.inr (.inr (va_cpy f (fun _ => none) 0 0 73))))))]) hD [0, 1] (by decide) rfl
  have hK9 := hK.sub (tys' := [(cO, .object "java/lang/Object")]) [0] rfl
  refine W.widen (k := 1) (n := 109) (Nat.le_of_ble_eq_true rfl) (Nat.le_of_ble_eq_true rfl) ?_
  exact W.aret (v := .ref ra4) hx hb hr (Or.inr ⟨_, rfl⟩) (Or.inr ⟨_, rfl⟩) (fun t ht hW => ⟨⟨(), ra4, rfl, trivial, ⟨by rw [ht]; exact hP9, va_K.moved hW.alike hK9, hD9⟩⟩, hS.F ht⟩) hS.2.2 d_AL_grow_10
set_option maxHeartbeats 1000000 in
set_option maxRecDepth 100000 in
/-- grow(110) -/
theorem k_AL_grow2_109 (l : Launch) (dC : Nat → ClassId) (dI : Nat → Nat → Nat) (sz : Nat) (x : Nat) (mo : Int32) (ed : Nat) (cO : ClassId) (f : Nat → Option Nat) (ci : Nat) (em : Nat) (aK : Nat → Nat) (aV : Nat → Nat) (fz : va_W) (hci : Oci ci) (hel : ∀ i, i < 109 → ∀ y, f i = some y → Vin ci fz y) : Met l y_AL_grow2 ws_AL_grow2 ({ frames := 3, cells := 1, slots := 163, locals := 84 }) (va_Pc [.ref x, .int 110] (fun U => U.heap.size = sz ∧ va_P (dC, dI) vwCl ([(x, .inr (14, [.ref ed, .int 109, .int mo])), (ed, .inl (cO, 109, .inr (.inr (.inr (.inr f)))))] ++ fz) U.heap ∧ va_K (dC, dI) vwCl [(cO, .object "java/lang/Object")] U ∧ va_D (fun _ => True) ([(x, .inr (14, [.ref ed, .int 109, .int mo])), (ed, .inl (cO, 109, .inr (.inr (.inr (.inr f)))))] ++ fz) ∧ EX em aK aV (va_A ([(x, .inr (14, [.ref ed, .int 109, .int mo])), (ed, .inl (cO, 109, .inr (.inr (.inr (.inr f)))))] ++ fz) sz) U U.heap)) (va_Qr (fun (u : Unit) => True) (fun u ra t => va_P (dC, dI) vwCl ([(x, .inr (14, [.ref ra, .int 109, .int mo])), (ra, .inl (cO, 163, .inr (.inr (.inr (.inr (va_cpy f (fun _ => none) 0 0 109))))))] ++ fz) t.heap ∧ va_K (dC, dI) vwCl [(cO, .object "java/lang/Object")] t ∧ va_D (va_A ([(x, .inr (14, [.ref ed, .int 109, .int mo])), (ed, .inl (cO, 109, .inr (.inr (.inr (.inr f)))))] ++ fz) sz) ([(x, .inr (14, [.ref ra, .int 109, .int mo])), (ra, .inl (cO, 163, .inr (.inr (.inr (.inr (va_cpy f (fun _ => none) 0 0 109))))))] ++ fz)) (va_A ([(x, .inr (14, [.ref ed, .int 109, .int mo])), (ed, .inl (cO, 109, .inr (.inr (.inr (.inr f)))))] ++ fz) sz)) 1 163 (va_A ([(x, .inr (14, [.ref ed, .int 109, .int mo])), (ed, .inl (cO, 109, .inr (.inr (.inr (.inr f)))))] ++ fz) sz) := by
  refine Met.ofW (cc := c_AL_grow2) (maxL := 4) (ret := (some (.array (.object "java/lang/Object")))) (by decide) rfl ?_
  intro p e s m args below meth c s₁ B hml hv
  obtain ⟨rfl, hsz, hP, hK, hD0, hE⟩ := hv
  have hx := B.exec
  have hb := B.bytes
  have hr := B.returns
  have hts := atoms_spec (ws := ws_AL_grow2) B.pre
  have htb := fun w (h : w ∈ TBL) => hts w (List.mem_cons_of_mem _ h)
  have hown : s.vm.findClass R_AL = some m.cls := findClass_of_methodNamed B.named
  have hlocks := B.notSynchronized
  subst hsz
  have hD := hD0.self (sz := s.heap.size)
  generalize hAe : va_A ([(x, .inr (14, [.ref ed, .int 109, .int mo])), (ed, .inl (cO, 109, .inr (.inr (.inr (.inr f)))))] ++ fz) s.heap.size = A at hD hE ⊢
  have hA : ∀ q : Nat, s.heap.size ≤ q → A q := fun q h => by rw [← hAe]; exact Or.inr h
  have hS : va_S A s.heap s.heap [] := va_S.rf
  have hP : va_P (dC, dI) vwCl ([(x, .inr (14, [.ref ed, .int 109, .int mo])), (ed, .inl (cO, 109, .inr (.inr (.inr (.inr f)))))] ++ fz) s.heap := hP
  have hl := lv_entry ([.ref x, .int 110]) (n := 4) (Nat.le_of_ble_eq_true rfl)
  rw [lg_entry_eq]
  generalize (lg_sl ([.ref x, .int 110]) ++ List.replicate (4 - (lg_sl ([.ref x, .int 110])).length) Slot.unset).toArray = ls at hl ⊢
  have hl : lv_has ls 4 [(0, .ref x), (1, .int 110)] := hl
  refine lv_aload_n hx hb d_AL_grow2_0 rfl (lv_at hl 0 rfl) ?_
  refine va_get (D := (dC, dI)) (ci := 14) (v := .ref ed) (C := R_AL) (T := T_AL) (N := 3) hx hb htb in_AL hown hK hP 0 rfl rfl 0 (by decide) (htb _ m_87) (fun _ h9 => h9) rfl d_AL_grow2_1 ?_
  refine va_alen (v := 109) hx hb hK hP 1 0 rfl rfl rfl d_AL_grow2_4 ?_
  refine lv_istore_n hx hb d_AL_grow2_5 rfl hl (by decide) rfl (fun ls hl => ?_)
  have hl : lv_has ls 4 [(2, .int 109), (0, .ref x), (1, .int 110)] := hl
  refine lv_iload_n hx hb d_AL_grow2_6 rfl (lv_at hl 0 rfl) ?_
  refine lv_if_gt (tgt := 20) hx hb d_AL_grow2_7 rfl (fun _ => ?_) (fun h9 => absurd (by decide) h9)
  refine lv_iload_n hx hb d_AL_grow2_20 rfl (lv_at hl 0 rfl) ?_
  refine lv_iload_n hx hb d_AL_grow2_21 rfl (lv_at hl 2 rfl) ?_
  refine lv_iload_n hx hb d_AL_grow2_22 rfl (lv_at hl 0 rfl) ?_
  refine lv_isub hx hb d_AL_grow2_23 ?_
  refine W.eq (congrArg (fun z => F0 m 24 ls (.int z :: [.int 109])) (by decide : ((110 : Int32) - 109) = 1)) ?_
  refine lv_iload_n hx hb d_AL_grow2_24 rfl (lv_at hl 0 rfl) ?_
  refine lv_iconst (v := 1) hx hb d_AL_grow2_25 (by decide) ?_
  refine lv_ishr hx hb d_AL_grow2_26 ?_
  refine W.eq (congrArg (fun z => F0 m 27 ls (.int z :: [.int 1, .int 109])) (by decide : ((109 : Int32) >>> ((1 : Int32) &&& 31)) = 54)) ?_
  have hPc : va_P (dC, dI) vwCl [] _ := hP.sub (ws' := []) [] rfl
  have hKc := hK.sub (tys' := []) [] rfl
  refine vp_callSi (W.runS (As := [.int (nI 109), .int (nI 1), .int (nI 54)]) (rest := []) ⟨hx, hb, hml, hown, htb⟩ (q_AS_newLength l dC dI 109 1 54 (by decide) (by decide) (by decide) (by decide)) (va_cwS 3 htb (g_S (fun _ h => h) m_210 m_538 m_209 m_12) rfl rfl rfl (by decide +kernel) ⟨Nat.le_of_ble_eq_true rfl, Nat.le_of_ble_eq_true rfl⟩) ⟨fun a U g mk q => by obtain ⟨q0, qP, qK⟩ := q; exact ⟨q0, qP, va_K.moved (u := U) (U := U.calling g mk a) (Vm.Alike.refl U.vm) qK⟩, fun U hU hW => ⟨rfl, by rw [hU]; exact hPc, va_K.moved hW.alike hKc⟩⟩ rfl rfl hl.1 rfl (lv_room (Nat.le_of_ble_eq_true rfl)) d_AL_grow2_27 ⟨Nat.le_of_ble_eq_true rfl, Nat.le_of_ble_eq_true rfl⟩) (fun r1 hw2 => ?_)
  have hw2 : r1 = nI (109 + Nat.max 1 54) := hw2
  obtain rfl : r1 = (163 : Int32) := hw2.trans (by decide)
  refine lv_istore_n hx hb d_AL_grow2_30 rfl hl (by decide) rfl (fun ls hl => ?_)
  have hl : lv_has ls 4 [(3, .int 163), (2, .int 109), (0, .ref x), (1, .int 110)] := hl
  refine lv_aload_n hx hb d_AL_grow2_31 rfl (lv_at hl 2 rfl) ?_
  refine lv_aload_n hx hb d_AL_grow2_32 rfl (lv_at hl 2 rfl) ?_
  refine va_get (D := (dC, dI)) (ci := 14) (v := .ref ed) (C := R_AL) (T := T_AL) (N := 3) hx hb htb in_AL hown hK hP 0 rfl rfl 0 (by decide) (htb _ m_87) (fun _ h9 => h9) rfl d_AL_grow2_33 ?_
  refine lv_iload_n hx hb d_AL_grow2_36 rfl (lv_at hl 0 rfl) ?_
  have hPc := zz_pickP (pre := [(x, .inr (14, [.ref ed, .int 109, .int mo])), (ed, .inl (cO, 109, .inr (.inr (.inr (.inr f)))))]) (fz := fz) (wc := [(ed, .inl (cO, 109, .inr (.inr (.inr (.inr f)))))]) hP [1] rfl
  have hDc := zz_pickD (pre := [(x, .inr (14, [.ref ed, .int 109, .int mo])), (ed, .inl (cO, 109, .inr (.inr (.inr (.inr f)))))]) (fz := fz) (wc := [(ed, .inl (cO, 109, .inr (.inr (.inr (.inr f)))))]) hD [1] (by decide) rfl
  have hFc := zz_free (pre := [(x, .inr (14, [.ref ed, .int 109, .int mo])), (ed, .inl (cO, 109, .inr (.inr (.inr (.inr f)))))]) (fz := fz) (wc := [(ed, .inl (cO, 109, .inr (.inr (.inr (.inr f)))))]) hD hS hA [1] rfl
  have hKc := hK.sub (tys' := [(cO, .object "java/lang/Object")]) [0] rfl
  refine va_callr (va_runS (As := [.ref ed, .int 163]) (rest := [.ref x]) ⟨hx, hb, hml, hown, htb⟩ (k_AR_copyOf2_109 l dC dI _ ed cO f ci em aK aV fz hci hel) (va_cwS 2 htb (g_S (fun _ h => h) m_541 m_539 m_540 m_14) rfl rfl rfl (by decide +kernel) ⟨Nat.le_of_ble_eq_true rfl, Nat.le_of_ble_eq_true rfl⟩) ⟨fun a U g mk q => by obtain ⟨q0, q1, qP, qK, qD, z0⟩ := q; exact ⟨q0, q1, qP, va_K.moved (u := U) (U := U.calling g mk a) (Vm.Alike.refl U.vm) qK, qD, EX.same (U := U) (U' := U.calling g mk a) rfl z0⟩, fun U hU hW => ⟨rfl, by rw [hU], by rw [hU]; exact hPc, va_K.moved hW.alike hKc, hDc.weaken (fun _ _ _ _ => trivial), by rw [hU]; exact EX.warm hW ((hE.kept (fun a h1 h2 => hS.2.1 a h1 h2)).narrow hFc)⟩⟩ rfl rfl hl.1 rfl (lv_room (Nat.le_of_ble_eq_true rfl)) d_AL_grow2_37 ⟨Nat.le_of_ble_eq_true rfl, Nat.le_of_ble_eq_true rfl⟩) hS (fun q _ h => hFc q h) hFc (fun u3 ra6 t H1 locs ht hvm hw5 hB hz1 hk1 hS => ?_)
  obtain ⟨hP1, hK1, hD1⟩ := hB
  rw [ht] at hP1
  have hK1 := va_K.moved hvm.symm hK1
  have hw5 : True := hw5
  obtain ⟨hP, hD⟩ := zz_join (pre := [(x, .inr (14, [.ref ed, .int 109, .int mo])), (ed, .inl (cO, 109, .inr (.inr (.inr (.inr f)))))]) (fz := fz) (wc := [(ed, .inl (cO, 109, .inr (.inr (.inr (.inr f)))))]) (wr := [(x, .inr (14, [.ref ed, .int 109, .int mo]))]) (w1 := ([(ed, .inl (cO, 109, .inr (.inr (.inr (.inr f))))), (ra6, .inl (cO, 163, .inr (.inr (.inr (.inr (va_cpy f (fun _ => none) 0 0 109))))))] ++ fz)) hP hD [1] [0] rfl rfl (by decide) (by decide) hk1 hFc hP1 hD1
  have hK := (hK.sub (tys' := []) [] rfl).app hK1
  generalize H1 = H at hP hS ⊢
  have hP : va_P (dC, dI) vwCl ([(x, .inr (14, [.ref ed, .int 109, .int mo])), (ed, .inl (cO, 109, .inr (.inr (.inr (.inr f))))), (ra6, .inl (cO, 163, .inr (.inr (.inr (.inr (va_cpy f (fun _ => none) 0 0 109))))))] ++ fz) H := hP
  have hD : va_D A ([(x, .inr (14, [.ref ed, .int 109, .int mo])), (ed, .inl (cO, 109, .inr (.inr (.inr (.inr f))))), (ra6, .inl (cO, 163, .inr (.inr (.inr (.inr (va_cpy f (fun _ => none) 0 0 109))))))] ++ fz) := hD
  have hK : va_K (dC, dI) vwCl [(cO, .object "java/lang/Object")] s := hK
  refine W.widen (k := 1) (n := 163) (Nat.le_of_ble_eq_true rfl) (Nat.le_of_ble_eq_true rfl) ?_
  refine lv_dup_x1 hx hb d_AL_grow2_40 rfl rfl ?_
  refine va_put (D := (dC, dI)) (ci := 14) (v := .ref ra6) (ty := (.array (.object "java/lang/Object"))) (C := R_AL) (T := T_AL) (N := 3) hx hb htb in_AL ty_AL ty_AL_ok nm_AL hown hK hP hD hS 0 rfl rfl 0 (by decide) (htb _ m_87) (fun _ h9 => h9) rfl (by decide +kernel) rfl rfl (Nat.le_of_ble_eq_true rfl) d_AL_grow2_41 (fun H locs hP hD hS => ?_)
  have hP : va_P (dC, dI) vwCl ([(x, .inr (14, [.ref ra6, .int 109, .int mo])), (ed, .inl (cO, 109, .inr (.inr (.inr (.inr f))))), (ra6, .inl (cO, 163, .inr (.inr (.inr (.inr (va_cpy f (fun _ => none) 0 0 109))))))] ++ fz) H := hP
  have hD : va_D A ([(x, .inr (14, [.ref ra6, .int 109, .int mo])), (ed, .inl (cO, 109, .inr (.inr (.inr (.inr f))))), (ra6, .inl (cO, 163, .inr (.inr (.inr (.inr (va_cpy f (fun _ => none) 0 0 109))))))] ++ fz) := hD
  have hP9 := zz_pickP (pre := [(x, .inr (14, [.ref ra6, .int 109, .int mo])), (ed, .inl (cO, 109, .inr (.inr (.inr (.inr f))))), (ra6, .inl (cO, 163, .inr (.inr (.inr (.inr (va_cpy f (fun _ => none) 0 0 109))))))]) (fz := fz) (wc := [(x, .inr (14, [.ref ra6, .int 109, .int mo])), (ra6, .inl (cO, 163, .inr (.inr (.inr (.inr (va_cpy f (fun _ => none) 0 0 109))))))]) hP [0, 2] rfl
  have hD9 := zz_pickD (pre := [(x, .inr (14, [.ref ra6, .int 109, .int mo])), (ed, .inl (cO, 109, .inr (.inr (.inr (.inr f))))), (ra6, .inl (cO, 163, .inr (.inr (.inr (.inr (va_cpy f (fun _ => none) 0 0 109))))))]) (fz := fz) (wc := [(x, .inr (14, [.ref ra6, .int 109, .int mo])), (ra6, .inl (cO, 163, .inr (.inr (.inr (.inr (va_cpy f (fun _ => none) 0 0 109))))))]) hD [0, 2] (by decide) rfl
  have hK9 := hK.sub (tys' := [(cO, .object "java/lang/Object")]) [0] rfl
  refine W.widen (k := 1) (n := 163) (Nat.le_of_ble_eq_true rfl) (Nat.le_of_ble_eq_true rfl) ?_
  exact W.aret (v := .ref ra6) hx hb hr (Or.inr ⟨_, rfl⟩) (Or.inr ⟨_, rfl⟩) (fun t ht hW => ⟨⟨(), ra6, rfl, trivial, ⟨by rw [ht]; exact hP9, va_K.moved hW.alike hK9, hD9⟩⟩, hS.F ht⟩) hS.2.2 d_AL_grow2_44
set_option maxHeartbeats 1000000 in
set_option maxRecDepth 100000 in
/-- grow() -/
theorem k_AL_grow_109 (l : Launch) (dC : Nat → ClassId) (dI : Nat → Nat → Nat) (sz : Nat) (x : Nat) (mo : Int32) (ed : Nat) (cO : ClassId) (f : Nat → Option Nat) (ci : Nat) (em : Nat) (aK : Nat → Nat) (aV : Nat → Nat) (fz : va_W) (hci : Oci ci) (hel : ∀ i, i < 109 → ∀ y, f i = some y → Vin ci fz y) : Met l y_AL_grow ws_AL_grow ({ frames := 4, cells := 1, slots := 163, locals := 107 }) (va_Pc [.ref x] (fun U => U.heap.size = sz ∧ va_P (dC, dI) vwCl ([(x, .inr (14, [.ref ed, .int 109, .int mo])), (ed, .inl (cO, 109, .inr (.inr (.inr (.inr f)))))] ++ fz) U.heap ∧ va_K (dC, dI) vwCl [(cO, .object "java/lang/Object")] U ∧ va_D (fun _ => True) ([(x, .inr (14, [.ref ed, .int 109, .int mo])), (ed, .inl (cO, 109, .inr (.inr (.inr (.inr f)))))] ++ fz) ∧ EX em aK aV (va_A ([(x, .inr (14, [.ref ed, .int 109, .int mo])), (ed, .inl (cO, 109, .inr (.inr (.inr (.inr f)))))] ++ fz) sz) U U.heap)) (va_Qr (fun (u : Unit) => True) (fun u ra t => va_P (dC, dI) vwCl ([(x, .inr (14, [.ref ra, .int 109, .int mo])), (ra, .inl (cO, 163, .inr (.inr (.inr (.inr (va_cpy f (fun _ => none) 0 0 109))))))] ++ fz) t.heap ∧ va_K (dC, dI) vwCl [(cO, .object "java/lang/Object")] t ∧ va_D (va_A ([(x, .inr (14, [.ref ed, .int 109, .int mo])), (ed, .inl (cO, 109, .inr (.inr (.inr (.inr f)))))] ++ fz) sz) ([(x, .inr (14, [.ref ra, .int 109, .int mo])), (ra, .inl (cO, 163, .inr (.inr (.inr (.inr (va_cpy f (fun _ => none) 0 0 109))))))] ++ fz)) (va_A ([(x, .inr (14, [.ref ed, .int 109, .int mo])), (ed, .inl (cO, 109, .inr (.inr (.inr (.inr f)))))] ++ fz) sz)) 1 163 (va_A ([(x, .inr (14, [.ref ed, .int 109, .int mo])), (ed, .inl (cO, 109, .inr (.inr (.inr (.inr f)))))] ++ fz) sz) := by
  refine Met.ofW (cc := c_AL_grow) (maxL := 1) (ret := (some (.array (.object "java/lang/Object")))) (by decide) rfl ?_
  intro p e s m args below meth c s₁ B hml hv
  obtain ⟨rfl, hsz, hP, hK, hD0, hE⟩ := hv
  have hx := B.exec
  have hb := B.bytes
  have hr := B.returns
  have hts := atoms_spec (ws := ws_AL_grow) B.pre
  have htb := fun w (h : w ∈ TBL) => hts w (List.mem_cons_of_mem _ h)
  have hown : s.vm.findClass R_AL = some m.cls := findClass_of_methodNamed B.named
  have hlocks := B.notSynchronized
  subst hsz
  have hD := hD0.self (sz := s.heap.size)
  generalize hAe : va_A ([(x, .inr (14, [.ref ed, .int 109, .int mo])), (ed, .inl (cO, 109, .inr (.inr (.inr (.inr f)))))] ++ fz) s.heap.size = A at hD hE ⊢
  have hA : ∀ q : Nat, s.heap.size ≤ q → A q := fun q h => by rw [← hAe]; exact Or.inr h
  have hS : va_S A s.heap s.heap [] := va_S.rf
  have hP : va_P (dC, dI) vwCl ([(x, .inr (14, [.ref ed, .int 109, .int mo])), (ed, .inl (cO, 109, .inr (.inr (.inr (.inr f)))))] ++ fz) s.heap := hP
  have hl := lv_entry ([.ref x]) (n := 1) (Nat.le_of_ble_eq_true rfl)
  rw [lg_entry_eq]
  generalize (lg_sl ([.ref x]) ++ List.replicate (1 - (lg_sl ([.ref x])).length) Slot.unset).toArray = ls at hl ⊢
  have hl : lv_has ls 1 [(0, .ref x)] := hl
  refine lv_aload_n hx hb d_AL_grow_0 rfl (lv_at hl 0 rfl) ?_
  refine lv_aload_n hx hb d_AL_grow_1 rfl (lv_at hl 0 rfl) ?_
  refine va_get (D := (dC, dI)) (ci := 14) (v := .int 109) (C := R_AL) (T := T_AL) (N := 3) hx hb htb in_AL hown hK hP 0 rfl rfl 1 (by decide) (htb _ m_88) (fun _ h9 => h9) rfl d_AL_grow_2 ?_
  refine lv_iconst (v := 1) hx hb d_AL_grow_5 (by decide) ?_
  refine lv_iadd hx hb d_AL_grow_6 ?_
  refine W.eq (congrArg (fun z => F0 m 7 ls (.int z :: [.ref x])) (by decide : ((109 : Int32) + 1) = 110)) ?_
  have hPc := zz_pickP (pre := [(x, .inr (14, [.ref ed, .int 109, .int mo])), (ed, .inl (cO, 109, .inr (.inr (.inr (.inr f)))))]) (fz := fz) (wc := [(x, .inr (14, [.ref ed, .int 109, .int mo])), (ed, .inl (cO, 109, .inr (.inr (.inr (.inr f)))))]) hP [0, 1] rfl
  have hDc := zz_pickD (pre := [(x, .inr (14, [.ref ed, .int 109, .int mo])), (ed, .inl (cO, 109, .inr (.inr (.inr (.inr f)))))]) (fz := fz) (wc := [(x, .inr (14, [.ref ed, .int 109, .int mo])), (ed, .inl (cO, 109, .inr (.inr (.inr (.inr f)))))]) hD [0, 1] (by decide) rfl
  have hFc := zz_free (pre := [(x, .inr (14, [.ref ed, .int 109, .int mo])), (ed, .inl (cO, 109, .inr (.inr (.inr (.inr f)))))]) (fz := fz) (wc := [(x, .inr (14, [.ref ed, .int 109, .int mo])), (ed, .inl (cO, 109, .inr (.inr (.inr (.inr f)))))]) hD hS hA [0, 1] rfl
  have hKc := hK.sub (tys' := [(cO, .object "java/lang/Object")]) [0] rfl
  refine va_callr (va_runV (As := [.int 110]) (rest := []) ⟨hx, hb, hml, hown, htb⟩ (k_AL_grow2_109 l dC dI _ x mo ed cO f ci em aK aV fz hci hel) (cwV 1 htb (g_V (fun _ h => h) m_537 m_534 m_536 m_1632 m_8) rfl rfl rfl (by decide +kernel) ⟨Nat.le_of_ble_eq_true rfl, Nat.le_of_ble_eq_true rfl⟩) ⟨fun a U g mk q => by obtain ⟨q0, q1, qP, qK, qD, z0⟩ := q; exact ⟨q0, q1, qP, va_K.moved (u := U) (U := U.calling g mk a) (Vm.Alike.refl U.vm) qK, qD, EX.same (U := U) (U' := U.calling g mk a) rfl z0⟩, va_recv hK hP (ci := 14) rfl (q0 := 0) rfl, fun U hU hW => ⟨rfl, by rw [hU], by rw [hU]; exact hPc, va_K.moved hW.alike hKc, hDc.weaken (fun _ _ _ _ => trivial), by rw [hU]; exact EX.warm hW ((hE.kept (fun a h1 h2 => hS.2.1 a h1 h2)).narrow hFc)⟩⟩ rfl rfl hl.1 rfl (lv_room (Nat.le_of_ble_eq_true rfl)) d_AL_grow_7 ⟨Nat.le_of_ble_eq_true rfl, Nat.le_of_ble_eq_true rfl⟩) hS (fun q _ h => hFc q h) hFc (fun u1 ra4 t H1 locs ht hvm hw3 hB hz1 hk1 hS => ?_)
  obtain ⟨hP1, hK1, hD1⟩ := hB
  rw [ht] at hP1
  have hK1 := va_K.moved hvm.symm hK1
  have hw3 : True := hw3
  obtain ⟨hP, hD⟩ := zz_join (pre := [(x, .inr (14, [.ref ed, .int 109, .int mo])), (ed, .inl (cO, 109, .inr (.inr (.inr (.inr f)))))]) (fz := fz) (wc := [(x, .inr (14, [.ref ed, .int 109, .int mo])), (ed, .inl (cO, 109, .inr (.inr (.inr (.inr f)))))]) (wr := []) (w1 := ([(x, .inr (14, [.ref ra4, .int 109, .int mo])), (ra4, .inl (cO, 163, .inr (.inr (.inr (.inr (va_cpy f (fun _ => none) 0 0 109))))))] ++ fz)) hP hD [0, 1] [] rfl rfl (by decide) (by decide) hk1 hFc hP1 hD1
  have hK := (hK.sub (tys' := []) [] rfl).app hK1
  generalize H1 = H at hP hS ⊢
  have hP : va_P (dC, dI) vwCl ([(x, .inr (14, [.ref ra4, .int 109, .int mo])), (ra4, .inl (cO, 163, .inr (.inr (.inr (.inr (va_cpy f (fun _ => none) 0 0 109))))))] ++ fz) H := hP
  have hD : va_D A ([(x, .inr (14, [.ref ra4, .int 109, .int mo])), (ra4, .inl (cO, 163, .inr (.inr (.inr (.inr (va_cpy f (fun _ => none) 0 0 109))))))] ++ fz) := hD
  have hK : va_K (dC, dI) vwCl [(cO, .object "java/lang/Object")] s := hK
  refine W.widen (k := 1) (n := 163) (Nat.le_of_ble_eq_true rfl) (Nat.le_of_ble_eq_true rfl) ?_
  have hP9 := zz_pickP (pre := [(x, .inr (14, [.ref ra4, .int 109, .int mo])), (ra4, .inl (cO, 163, .inr (.inr (.inr (.inr (va_cpy f (fun _ => none) 0 0 109))))))]) (fz := fz) (wc := [(x, .inr (14, [.ref ra4, .int 109, .int mo])), (ra4, .inl (cO, 163, .inr (.inr (.inr (.inr (va_cpy f (fun _ => none) 0 0 109))))))]) hP [0, 1] rfl
  have hD9 := zz_pickD (pre := [(x, .inr (14, [.ref ra4, .int 109, .int mo])), (ra4, .inl (cO, 163, .inr (.inr (.inr (.inr (va_cpy f (fun _ => none) 0 0 109))))))]) (fz := fz) (wc := [(x, .inr (14, [.ref ra4, .int 109, .int mo])), (ra4, .inl (cO, 163, .inr (.inr (.inr (.inr (va_cpy f (fun _ => none) 0 0 109))))))]) hD [0, 1] (by decide) rfl
  have hK9 := hK.sub (tys' := [(cO, .object "java/lang/Object")]) [0] rfl
  refine W.widen (k := 1) (n := 163) (Nat.le_of_ble_eq_true rfl) (Nat.le_of_ble_eq_true rfl) ?_
  exact W.aret (v := .ref ra4) hx hb hr (Or.inr ⟨_, rfl⟩) (Or.inr ⟨_, rfl⟩) (fun t ht hW => ⟨⟨(), ra4, rfl, trivial, ⟨by rw [ht]; exact hP9, va_K.moved hW.alike hK9, hD9⟩⟩, hS.F ht⟩) hS.2.2 d_AL_grow_10
set_option maxHeartbeats 1000000 in
set_option maxRecDepth 100000 in
/-- grow(1) of the empty list -/
theorem k_AL_grow2_0 (l : Launch) (dC : Nat → ClassId) (dI : Nat → Nat → Nat) (sz : Nat) (x : Nat) (mo : Int32) (cO : ClassId) (em : Nat) (aK : Nat → Nat) (aV : Nat → Nat) (fz : va_W) : Met l y_AL_grow2 ws_AL_grow2 ({ frames := 1, cells := 1, slots := 10, locals := 14 }) (va_Pc [.ref x, .int 1] (fun U => U.heap.size = sz ∧ va_P (dC, dI) vwCl ([(x, .inr (14, [.ref em, .int 0, .int mo]))] ++ fz) U.heap ∧ va_K (dC, dI) vwCl [(cO, .object "java/lang/Object")] U ∧ va_D (fun _ => True) ([(x, .inr (14, [.ref em, .int 0, .int mo]))] ++ fz) ∧ EX em aK aV (va_A ([(x, .inr (14, [.ref em, .int 0, .int mo]))] ++ fz) sz) U U.heap)) (va_Qr (fun (u : Unit) => True) (fun u ra t => va_P (dC, dI) vwCl ([(x, .inr (14, [.ref ra, .int 0, .int mo])), (ra, .inl (cO, 10, .inr (.inr (.inr (.inr (fun _ => none))))))] ++ fz) t.heap ∧ va_K (dC, dI) vwCl [(cO, .object "java/lang/Object")] t ∧ va_D (va_A ([(x, .inr (14, [.ref em, .int 0, .int mo]))] ++ fz) sz) ([(x, .inr (14, [.ref ra, .int 0, .int mo])), (ra, .inl (cO, 10, .inr (.inr (.inr (.inr (fun _ => none))))))] ++ fz)) (va_A ([(x, .inr (14, [.ref em, .int 0, .int mo]))] ++ fz) sz)) 1 10 (va_A ([(x, .inr (14, [.ref em, .int 0, .int mo]))] ++ fz) sz) := by
  refine Met.ofW (cc := c_AL_grow2) (maxL := 4) (ret := (some (.array (.object "java/lang/Object")))) (by decide) rfl ?_
  intro p e s m args below meth c s₁ B hml hv
  obtain ⟨rfl, hsz, hP, hK, hD0, hE⟩ := hv
  have hx := B.exec
  have hb := B.bytes
  have hr := B.returns
  have hts := atoms_spec (ws := ws_AL_grow2) B.pre
  have htb := fun w (h : w ∈ TBL) => hts w (List.mem_cons_of_mem _ h)
  have hown : s.vm.findClass R_AL = some m.cls := findClass_of_methodNamed B.named
  have hlocks := B.notSynchronized
  subst hsz
  have hD := hD0.self (sz := s.heap.size)
  generalize hAe : va_A ([(x, .inr (14, [.ref em, .int 0, .int mo]))] ++ fz) s.heap.size = A at hD hE ⊢
  have hA : ∀ q : Nat, s.heap.size ≤ q → A q := fun q h => by rw [← hAe]; exact Or.inr h
  have hS : va_S A s.heap s.heap [] := va_S.rf
  have hP : va_P (dC, dI) vwCl ([(x, .inr (14, [.ref em, .int 0, .int mo]))] ++ fz) s.heap := hP
  have hl := lv_entry ([.ref x, .int 1]) (n := 4) (Nat.le_of_ble_eq_true rfl)
  rw [lg_entry_eq]
  generalize (lg_sl ([.ref x, .int 1]) ++ List.replicate (4 - (lg_sl ([.ref x, .int 1])).length) Slot.unset).toArray = ls at hl ⊢
  have hl : lv_has ls 4 [(0, .ref x), (1, .int 1)] := hl
  refine lv_aload_n hx hb d_AL_grow2_0 rfl (lv_at hl 0 rfl) ?_
  refine va_get (D := (dC, dI)) (ci := 14) (v := .ref em) (C := R_AL) (T := T_AL) (N := 3) hx hb htb in_AL hown hK hP 0 rfl rfl 0 (by decide) (htb _ m_87) (fun _ h9 => h9) rfl d_AL_grow2_1 ?_
  refine va_tlen (v := 0) hx hb hE.em0 hS rfl d_AL_grow2_4 ?_
  refine lv_istore_n hx hb d_AL_grow2_5 rfl hl (by decide) rfl (fun ls hl => ?_)
  have hl : lv_has ls 4 [(2, .int 0), (0, .ref x), (1, .int 1)] := hl
  refine lv_iload_n hx hb d_AL_grow2_6 rfl (lv_at hl 0 rfl) ?_
  refine lv_if_gt (tgt := 20) hx hb d_AL_grow2_7 rfl (fun h9 => absurd h9 (by decide)) (fun _ => ?_)
  refine lv_aload_n hx hb d_AL_grow2_10 rfl (lv_at hl 1 rfl) ?_
  refine va_get (D := (dC, dI)) (ci := 14) (v := .ref em) (C := R_AL) (T := T_AL) (N := 3) hx hb htb in_AL hown hK hP 0 rfl rfl 0 (by decide) (htb _ m_87) (fun _ h9 => h9) rfl d_AL_grow2_11 ?_
  refine va_gets hx hb hE.empty hS hown (htb _ m_85) (fun _ h9 => h9) d_AL_grow2_14 ?_
  refine lv_acmp_eq (rx := some em) (ry := some em) (tgt := 45) hx hb d_AL_grow2_17 rfl (fun _ => ?_) (fun h9 => absurd rfl h9)
  refine lv_aload_n hx hb d_AL_grow2_45 rfl (lv_at hl 1 rfl) ?_
  refine lv_bipush (v := 10) hx hb d_AL_grow2_46 (by decide) ?_
  refine lv_iload_n hx hb d_AL_grow2_48 rfl (lv_at hl 2 rfl) ?_
  refine va_mmax hx hb (hml.trans hl.1.symm) hown (htb _ m_568) (htb _ m_212) (htb _ m_13) (htb _ m_213) (Nat.le_of_ble_eq_true rfl) (Nat.le_of_ble_eq_true rfl) (Nat.le_of_ble_eq_true rfl) (Nat.le_of_ble_eq_true rfl) d_AL_grow2_49 ?_
  refine W.eq (congrArg (fun z => F0 m 52 ls (.int z :: [.ref x])) (by decide : (if (10 : Int32) < 1 then 1 else (10 : Int32)) = 10)) ?_
  refine va_newq (N' := 10) hx hb hown (htb _ m_569) hE.overO hK hP hD hS hA (by decide) (by decide) (by decide) (Nat.le_of_ble_eq_true rfl) (Nat.le_of_ble_eq_true rfl) d_AL_grow2_52 (fun eq cN H hK hP hD hS => ?_)
  have hP := zz_rotP (pre := [(x, .inr (14, [.ref em, .int 0, .int mo]))]) (fz := fz) hP
  have hD := zz_rotD (pre := [(x, .inr (14, [.ref em, .int 0, .int mo]))]) (fz := fz) hD
  have hK : va_K (dC, dI) vwCl [(cO, .object "java/lang/Object"), (cN, .object "java/lang/Object")] s := hK
  have hP : va_P (dC, dI) vwCl ([(x, .inr (14, [.ref em, .int 0, .int mo])), (eq, .inl (cN, 10, .inr (.inr (.inr (.inr (fun _ => none))))))] ++ fz) H := hP
  have hD : va_D A ([(x, .inr (14, [.ref em, .int 0, .int mo])), (eq, .inl (cN, 10, .inr (.inr (.inr (.inr (fun _ => none))))))] ++ fz) := hD
  refine W.widen (k := 1) (n := 10) (Nat.le_of_ble_eq_true rfl) (Nat.le_of_ble_eq_true rfl) ?_
  obtain rfl : cO = cN := zz_ty hK 0 1 rfl rfl
  have hK := hK.sub (tys' := [(cO, .object "java/lang/Object")]) [0] rfl
  have hP : va_P (dC, dI) vwCl ([(x, .inr (14, [.ref em, .int 0, .int mo])), (eq, .inl (cO, 10, .inr (.inr (.inr (.inr (fun _ => none))))))] ++ fz) H := hP
  have hD : va_D A ([(x, .inr (14, [.ref em, .int 0, .int mo])), (eq, .inl (cO, 10, .inr (.inr (.inr (.inr (fun _ => none))))))] ++ fz) := hD
  refine lv_dup_x1 hx hb d_AL_grow2_55 rfl rfl ?_
  refine va_put (D := (dC, dI)) (ci := 14) (v := .ref eq) (ty := (.array (.object "java/lang/Object"))) (C := R_AL) (T := T_AL) (N := 3) hx hb htb in_AL ty_AL ty_AL_ok nm_AL hown hK hP hD hS 0 rfl rfl 0 (by decide) (htb _ m_87) (fun _ h9 => h9) rfl (by decide +kernel) rfl rfl (Nat.le_of_ble_eq_true rfl) d_AL_grow2_56 (fun H locs hP hD hS => ?_)
  have hP : va_P (dC, dI) vwCl ([(x, .inr (14, [.ref eq, .int 0, .int mo])), (eq, .inl (cO, 10, .inr (.inr (.inr (.inr (fun _ => none))))))] ++ fz) H := hP
  have hD : va_D A ([(x, .inr (14, [.ref eq, .int 0, .int mo])), (eq, .inl (cO, 10, .inr (.inr (.inr (.inr (fun _ => none))))))] ++ fz) := hD
  have hP9 := zz_pickP (pre := [(x, .inr (14, [.ref eq, .int 0, .int mo])), (eq, .inl (cO, 10, .inr (.inr (.inr (.inr (fun _ => none))))))]) (fz := fz) (wc := [(x, .inr (14, [.ref eq, .int 0, .int mo])), (eq, .inl (cO, 10, .inr (.inr (.inr (.inr (fun _ => none))))))]) hP [0, 1] rfl
  have hD9 := zz_pickD (pre := [(x, .inr (14, [.ref eq, .int 0, .int mo])), (eq, .inl (cO, 10, .inr (.inr (.inr (.inr (fun _ => none))))))]) (fz := fz) (wc := [(x, .inr (14, [.ref eq, .int 0, .int mo])), (eq, .inl (cO, 10, .inr (.inr (.inr (.inr (fun _ => none))))))]) hD [0, 1] (by decide) rfl
  have hK9 := hK.sub (tys' := [(cO, .object "java/lang/Object")]) [0] rfl
  refine W.widen (k := 1) (n := 10) (Nat.le_of_ble_eq_true rfl) (Nat.le_of_ble_eq_true rfl) ?_
  exact W.aret (v := .ref eq) hx hb hr (Or.inr ⟨_, rfl⟩) (Or.inr ⟨_, rfl⟩) (fun t ht hW => ⟨⟨(), eq, rfl, trivial, ⟨by rw [ht]; exact hP9, va_K.moved hW.alike hK9, hD9⟩⟩, hS.F ht⟩) hS.2.2 d_AL_grow2_59
set_option maxHeartbeats 1000000 in
set_option maxRecDepth 100000 in
/-- grow() of the empty list -/
theorem k_AL_grow_0 (l : Launch) (dC : Nat → ClassId) (dI : Nat → Nat → Nat) (sz : Nat) (x : Nat) (mo : Int32) (cO : ClassId) (em : Nat) (aK : Nat → Nat) (aV : Nat → Nat) (fz : va_W) : Met l y_AL_grow ws_AL_grow ({ frames := 2, cells := 1, slots := 10, locals := 37 }) (va_Pc [.ref x] (fun U => U.heap.size = sz ∧ va_P (dC, dI) vwCl ([(x, .inr (14, [.ref em, .int 0, .int mo]))] ++ fz) U.heap ∧ va_K (dC, dI) vwCl [(cO, .object "java/lang/Object")] U ∧ va_D (fun _ => True) ([(x, .inr (14, [.ref em, .int 0, .int mo]))] ++ fz) ∧ EX em aK aV (va_A ([(x, .inr (14, [.ref em, .int 0, .int mo]))] ++ fz) sz) U U.heap)) (va_Qr (fun (u : Unit) => True) (fun u ra t => va_P (dC, dI) vwCl ([(x, .inr (14, [.ref ra, .int 0, .int mo])), (ra, .inl (cO, 10, .inr (.inr (.inr (.inr (fun _ => none))))))] ++ fz) t.heap ∧ va_K (dC, dI) vwCl [(cO, .object "java/lang/Object")] t ∧ va_D (va_A ([(x, .inr (14, [.ref em, .int 0, .int mo]))] ++ fz) sz) ([(x, .inr (14, [.ref ra, .int 0, .int mo])), (ra, .inl (cO, 10, .inr (.inr (.inr (.inr (fun _ => none))))))] ++ fz)) (va_A ([(x, .inr (14, [.ref em, .int 0, .int mo]))] ++ fz) sz)) 1 10 (va_A ([(x, .inr (14, [.ref em, .int 0, .int mo]))] ++ fz) sz) := by
  refine Met.ofW (cc := c_AL_grow) (maxL := 1) (ret := (some (.array (.object "java/lang/Object")))) (by decide) rfl ?_
  intro p e s m args below meth c s₁ B hml hv
  obtain ⟨rfl, hsz, hP, hK, hD0, hE⟩ := hv
  have hx := B.exec
  have hb := B.bytes
  have hr := B.returns
  have hts := atoms_spec (ws := ws_AL_grow) B.pre
  have htb := fun w (h : w ∈ TBL) => hts w (List.mem_cons_of_mem _ h)
  have hown : s.vm.findClass R_AL = some m.cls := findClass_of_methodNamed B.named
  have hlocks := B.notSynchronized
  subst hsz
  have hD := hD0.self (sz := s.heap.size)
  generalize hAe : va_A ([(x, .inr (14, [.ref em, .int 0, .int mo]))] ++ fz) s.heap.size = A at hD hE ⊢
  have hA : ∀ q : Nat, s.heap.size ≤ q → A q := fun q h => by rw [← hAe]; exact Or.inr h
  have hS : va_S A s.heap s.heap [] := va_S.rf
  have hP : va_P (dC, dI) vwCl ([(x, .inr (14, [.ref em, .int 0, .int mo]))] ++ fz) s.heap := hP
  have hl := lv_entry ([.ref x]) (n := 1) (Nat.le_of_ble_eq_true rfl)
  rw [lg_entry_eq]
  generalize (lg_sl ([.ref x]) ++ List.replicate (1 - (lg_sl ([.ref x])).length) Slot.unset).toArray = ls at hl ⊢
  have hl : lv_has ls 1 [(0, .ref x)] := hl
  refine lv_aload_n hx hb d_AL_grow_0 rfl (lv_at hl 0 rfl) ?_
  refine lv_aload_n hx hb d_AL_grow_1 rfl (lv_at hl 0 rfl) ?_
  refine va_get (D := (dC, dI)) (ci := 14) (v := .int 0) (C := R_AL) (T := T_AL) (N := 3) hx hb htb in_AL hown hK hP 0 rfl rfl 1 (by decide) (htb _ m_88) (fun _ h9 => h9) rfl d_AL_grow_2 ?_
  refine lv_iconst (v := 1) hx hb d_AL_grow_5 (by decide) ?_
  refine lv_iadd hx hb d_AL_grow_6 ?_
  refine W.eq (congrArg (fun z => F0 m 7 ls (.int z :: [.ref x])) (by decide : ((0 : Int32) + 1) = 1)) ?_
  have hPc := zz_pickP (pre := [(x, .inr (14, [.ref em, .int 0, .int mo]))]) (fz := fz) (wc := [(x, .inr (14, [.ref em, .int 0, .int mo]))]) hP [0] rfl
  have hDc := zz_pickD (pre := [(x, .inr (14, [.ref em, .int 0, .int mo]))]) (fz := fz) (wc := [(x, .inr (14, [.ref em, .int 0, .int mo]))]) hD [0] (by decide) rfl
  have hFc := zz_free (pre := [(x, .inr (14, [.ref em, .int 0, .int mo]))]) (fz := fz) (wc := [(x, .inr (14, [.ref em, .int 0, .int mo]))]) hD hS hA [0] rfl
  have hKc := hK.sub (tys' := [(cO, .object "java/lang/Object")]) [0] rfl
  refine va_callr (va_runV (As := [.int 1]) (rest := []) ⟨hx, hb, hml, hown, htb⟩ (k_AL_grow2_0 l dC dI _ x mo cO em aK aV fz ) (cwV 1 htb (g_V (fun _ h => h) m_537 m_534 m_536 m_1632 m_8) rfl rfl rfl (by decide +kernel) ⟨Nat.le_of_ble_eq_true rfl, Nat.le_of_ble_eq_true rfl⟩) ⟨fun a U g mk q => by obtain ⟨q0, q1, qP, qK, qD, z0⟩ := q; exact ⟨q0, q1, qP, va_K.moved (u := U) (U := U.calling g mk a) (Vm.Alike.refl U.vm) qK, qD, EX.same (U := U) (U' := U.calling g mk a) rfl z0⟩, va_recv hK hP (ci := 14) rfl (q0 := 0) rfl, fun U hU hW => ⟨rfl, by rw [hU], by rw [hU]; exact hPc, va_K.moved hW.alike hKc, hDc.weaken (fun _ _ _ _ => trivial), by rw [hU]; exact EX.warm hW ((hE.kept (fun a h1 h2 => hS.2.1 a h1 h2)).narrow hFc)⟩⟩ rfl rfl hl.1 rfl (lv_room (Nat.le_of_ble_eq_true rfl)) d_AL_grow_7 ⟨Nat.le_of_ble_eq_true rfl, Nat.le_of_ble_eq_true rfl⟩) hS (fun q _ h => hFc q h) hFc (fun u1 ra4 t H1 locs ht hvm hw3 hB hz1 hk1 hS => ?_)
  obtain ⟨hP1, hK1, hD1⟩ := hB
  rw [ht] at hP1
  have hK1 := va_K.moved hvm.symm hK1
  have hw3 : True := hw3
  obtain ⟨hP, hD⟩ := zz_join (pre := [(x, .inr (14, [.ref em, .int 0, .int mo]))]) (fz := fz) (wc := [(x, .inr (14, [.ref em, .int 0, .int mo]))]) (wr := []) (w1 := ([(x, .inr (14, [.ref ra4, .int 0, .int mo])), (ra4, .inl (cO, 10, .inr (.inr (.inr (.inr (fun _ => none))))))] ++ fz)) hP hD [0] [] rfl rfl (by decide) (by decide) hk1 hFc hP1 hD1
  have hK := (hK.sub (tys' := []) [] rfl).app hK1
  generalize H1 = H at hP hS ⊢
  have hP : va_P (dC, dI) vwCl ([(x, .inr (14, [.ref ra4, .int 0, .int mo])), (ra4, .inl (cO, 10, .inr (.inr (.inr (.inr (fun _ => none))))))] ++ fz) H := hP
  have hD : va_D A ([(x, .inr (14, [.ref ra4, .int 0, .int mo])), (ra4, .inl (cO, 10, .inr (.inr (.inr (.inr (fun _ => none))))))] ++ fz) := hD
  have hK : va_K (dC, dI) vwCl [(cO, .object "java/lang/Object")] s := hK
  refine W.widen (k := 1) (n := 10) (Nat.le_of_ble_eq_true rfl) (Nat.le_of_ble_eq_true rfl) ?_
  have hP9 := zz_pickP (pre := [(x, .inr (14, [.ref ra4, .int 0, .int mo])), (ra4, .inl (cO, 10, .inr (.inr (.inr (.inr (fun _ => none))))))]) (fz := fz) (wc := [(x, .inr (14, [.ref ra4, .int 0, .int mo])), (ra4, .inl (cO, 10, .inr (.inr (.inr (.inr (fun _ => none))))))]) hP [0, 1] rfl
  have hD9 := zz_pickD (pre := [(x, .inr (14, [.ref ra4, .int 0, .int mo])), (ra4, .inl (cO, 10, .inr (.inr (.inr (.inr (fun _ => none))))))]) (fz := fz) (wc := [(x, .inr (14, [.ref ra4, .int 0, .int mo])), (ra4, .inl (cO, 10, .inr (.inr (.inr (.inr (fun _ => none))))))]) hD [0, 1] (by decide) rfl
  have hK9 := hK.sub (tys' := [(cO, .object "java/lang/Object")]) [0] rfl
  refine W.widen (k := 1) (n := 10) (Nat.le_of_ble_eq_true rfl) (Nat.le_of_ble_eq_true rfl) ?_
  exact W.aret (v := .ref ra4) hx hb hr (Or.inr ⟨_, rfl⟩) (Or.inr ⟨_, rfl⟩) (fun t ht hW => ⟨⟨(), ra4, rfl, trivial, ⟨by rw [ht]; exact hP9, va_K.moved hW.alike hK9, hD9⟩⟩, hS.F ht⟩) hS.2.2 d_AL_grow_10
