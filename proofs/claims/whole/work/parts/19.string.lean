set_option maxHeartbeats 1000000 in
set_option maxRecDepth 100000 in
theorem q_AR_checkLength (l : Launch) (dC : Nat → ClassId) (dI : Nat → Nat → Nat) (i : Nat) (j : Nat) (hij : i ≤ j) (hj : j < 2 ^ 31) : Met l y_AR_checkLength ws_AR_checkLength ({ frames := 0, cells := 0, slots := 0, locals := 0 }) (va_Pc [.int (nI i), .int (nI j)] (fun U => va_P (dC, dI) vwCl [] U.heap ∧ va_K (dC, dI) vwCl [] U)) (va_Sv (fun _ => True)) 0 0 (fun _ => False) := by
  refine Met.ofW (cc := c_AR_checkLength) (maxL := 2) (ret := none) (by decide) rfl ?_
  intro p e s m args below meth c s₁ B hml hv
  obtain ⟨rfl, hP, hK⟩ := hv
  have hx := B.exec
  have hb := B.bytes
  have hr := B.returns
  have hts := atoms_spec (ws := ws_AR_checkLength) B.pre
  have htb := fun w (h : w ∈ TBL) => hts w (List.mem_cons_of_mem _ h)
  have hown : s.vm.findClass R_AR = some m.cls := findClass_of_methodNamed B.named
  have hlocks := B.notSynchronized
  have hl := lv_entry ([.int (nI i), .int (nI j)]) (n := 2) (Nat.le_of_ble_eq_true rfl)
  rw [lg_entry_eq]
  generalize (lg_sl ([.int (nI i), .int (nI j)]) ++ List.replicate (2 - (lg_sl ([.int (nI i), .int (nI j)])).length) Slot.unset).toArray = ls at hl ⊢
  have hl : lv_has ls 2 [(0, .int (nI i)), (1, .int (nI j))] := hl
  refine lv_iload_n hx hb d_AR_checkLength_0 rfl (lv_at hl 1 rfl) ?_
  refine lv_iload_n hx hb d_AR_checkLength_1 rfl (lv_at hl 0 rfl) ?_
  refine lv_icmp_ge (tgt := 37) hx hb d_AR_checkLength_2 rfl (fun _ => ?_) (fun h9 => absurd (nI_le hij hj) h9)
  exact W.vret hx hb hr (fun t ht hW => ⟨rfl, trivial, ht⟩) (fun q h => absurd h List.not_mem_nil) d_AR_checkLength_37
set_option maxHeartbeats 1000000 in
set_option maxRecDepth 100000 in
/-- the first n bytes -/
theorem k_AR_copyOfRangeByte (l : Launch) (dC : Nat → ClassId) (dI : Nat → Nat → Nat) (sz : Nat) (bv : Nat) (cB : ClassId) (f : Nat → Int32) (cap : Nat) (n : Nat) (hf : sb_Fit f) (hn : n ≤ 160) (hc : n ≤ cap) (hc2 : cap ≤ 286) : Met l y_AR_copyOfRangeByte ws_AR_copyOfRangeByte ({ frames := 1, cells := 1, slots := 160, locals := 40 }) (va_Pc [.ref bv, .int 0, .int (nI n)] (fun U => U.heap.size = sz ∧ va_P (dC, dI) vwCl [(bv, .inl (cB, cap, .inl f))] U.heap ∧ va_K (dC, dI) vwCl [(cB, .byte)] U ∧ va_D (fun _ => True) [(bv, .inl (cB, cap, .inl f))])) (va_Qr (fun (u : Unit) => True) (fun u ra t => va_P (dC, dI) vwCl [(bv, .inl (cB, cap, .inl f)), (ra, .inl (cB, n, .inl (va_cpy f (fun _ => 0) 0 0 n)))] t.heap ∧ va_K (dC, dI) vwCl [(cB, .byte)] t ∧ va_D (va_A [(bv, .inl (cB, cap, .inl f))] sz) [(bv, .inl (cB, cap, .inl f)), (ra, .inl (cB, n, .inl (va_cpy f (fun _ => 0) 0 0 n)))]) (va_A [(bv, .inl (cB, cap, .inl f))] sz)) 1 160 (va_A [(bv, .inl (cB, cap, .inl f))] sz) := by
  refine Met.ofW (cc := c_AR_copyOfRangeByte) (maxL := 5) (ret := (some (.array .byte))) (by decide) rfl ?_
  intro p e s m args below meth c s₁ B hml hv
  obtain ⟨rfl, hsz, hP, hK, hD0⟩ := hv
  have hx := B.exec
  have hb := B.bytes
  have hr := B.returns
  have hts := atoms_spec (ws := ws_AR_copyOfRangeByte) B.pre
  have htb := fun w (h : w ∈ TBL) => hts w (List.mem_cons_of_mem _ h)
  have hown : s.vm.findClass R_AR = some m.cls := findClass_of_methodNamed B.named
  have hlocks := B.notSynchronized
  subst hsz
  have hD := hD0.self (sz := s.heap.size)
  generalize hAe : va_A [(bv, .inl (cB, cap, .inl f))] s.heap.size = A at hD ⊢
  have hA : ∀ q : Nat, s.heap.size ≤ q → A q := fun q h => by rw [← hAe]; exact Or.inr h
  have hS : va_S A s.heap s.heap [] := va_S.rf
  have hP : va_P (dC, dI) vwCl [(bv, .inl (cB, cap, .inl f))] s.heap := hP
  have hl := lv_entry ([.ref bv, .int 0, .int (nI n)]) (n := 5) (Nat.le_of_ble_eq_true rfl)
  rw [lg_entry_eq]
  generalize (lg_sl ([.ref bv, .int 0, .int (nI n)]) ++ List.replicate (5 - (lg_sl ([.ref bv, .int 0, .int (nI n)])).length) Slot.unset).toArray = ls at hl ⊢
  have hl : lv_has ls 5 [(0, .ref bv), (1, .int 0), (2, .int (nI n))] := hl
  refine lv_iload_n hx hb d_AR_copyOfRangeByte_0 rfl (lv_at hl 1 rfl) ?_
  refine lv_iload_n hx hb d_AR_copyOfRangeByte_1 rfl (lv_at hl 2 rfl) ?_
  have hPc : va_P (dC, dI) vwCl [] _ := hP.sub (ws' := []) [] rfl
  have hKc := hK.sub (tys' := []) [] rfl
  refine va_csv (W.runS (As := [.int (nI 0), .int (nI n)]) (rest := []) ⟨hx, hb, hml, hown, htb⟩ (q_AR_checkLength l dC dI 0 n (by omega) (by omega)) (va_cwS 2 htb (g_S (fun _ h => h) m_288 m_286 m_287 m_14) rfl rfl rfl (by decide +kernel) ⟨Nat.le_of_ble_eq_true rfl, Nat.le_of_ble_eq_true rfl⟩) ⟨fun a U g mk q => by obtain ⟨q0, qP, qK⟩ := q; exact ⟨q0, qP, va_K.moved (u := U) (U := U.calling g mk a) (Vm.Alike.refl U.vm) qK⟩, fun U hU hW => ⟨rfl, by rw [hU]; exact hPc, va_K.moved hW.alike hKc⟩⟩ rfl rfl hl.1 rfl (lv_room (Nat.le_of_ble_eq_true rfl)) d_AR_copyOfRangeByte_2 ⟨Nat.le_of_ble_eq_true rfl, Nat.le_of_ble_eq_true rfl⟩) (fun hw2 => ?_)
  have hw2 : True := hw2
  refine lv_iload_n hx hb d_AR_copyOfRangeByte_5 rfl (lv_at hl 2 rfl) ?_
  refine lv_iload_n hx hb d_AR_copyOfRangeByte_6 rfl (lv_at hl 1 rfl) ?_
  refine lv_isub hx hb d_AR_copyOfRangeByte_7 ?_
  refine W.eq (congrArg (fun z => F0 m 8 ls (.int z :: [])) (pk_sub (a := n) (b := 0) (by omega) : ((nI n) - 0) = nI n)) ?_
  refine lv_istore_n hx hb d_AR_copyOfRangeByte_8 rfl hl (by decide) rfl (fun ls hl => ?_)
  have hl : lv_has ls 5 [(3, .int (nI n)), (0, .ref bv), (1, .int 0), (2, .int (nI n))] := hl
  refine lv_iload_n hx hb d_AR_copyOfRangeByte_9 rfl (lv_at hl 0 rfl) ?_
  refine va_newa (atype := .byte) (ty := .byte) (N' := n) (a0 := (n, .inl (fun _ => 0))) hx hb (htb _ m_70) rfl hK hP hD hS hA (fun _ => rfl) (nI_pos (by omega)) (nI_clamp (by omega)) (by show n * 1 ≤ _; omega) (Nat.le_of_ble_eq_true rfl) (Nat.le_trans (Nat.add_le_add_left hn _) (Nat.le_of_ble_eq_true rfl)) d_AR_copyOfRangeByte_10 (fun bw cN H hK hP hD hS => ?_)
  have hK : va_K (dC, dI) vwCl [(cB, .byte), (cN, .byte)] s := hK
  have hP : va_P (dC, dI) vwCl [(bv, .inl (cB, cap, .inl f)), (bw, .inl (cN, n, .inl (fun _ => 0)))] H := hP
  have hD : va_D A [(bv, .inl (cB, cap, .inl f)), (bw, .inl (cN, n, .inl (fun _ => 0)))] := hD
  refine W.widen (k := 1) (n := 160) (Nat.le_of_ble_eq_true rfl) (Nat.add_le_add_left hn 0) ?_
  obtain rfl : cB = cN := zz_ty hK 0 1 rfl rfl
  have hK := hK.sub (tys' := [(cB, .byte)]) [0] rfl
  have hP : va_P (dC, dI) vwCl [(bv, .inl (cB, cap, .inl f)), (bw, .inl (cB, n, .inl (fun _ => 0)))] H := hP
  have hD : va_D A [(bv, .inl (cB, cap, .inl f)), (bw, .inl (cB, n, .inl (fun _ => 0)))] := hD
  refine lv_astore hx hb d_AR_copyOfRangeByte_12 hl (by decide) rfl (fun ls hl => ?_)
  have hl : lv_has ls 5 [(4, .ref bw), (3, .int (nI n)), (0, .ref bv), (1, .int 0), (2, .int (nI n))] := hl
  refine lv_aload_n hx hb d_AR_copyOfRangeByte_14 rfl (lv_at hl 2 rfl) ?_
  refine lv_iload_n hx hb d_AR_copyOfRangeByte_15 rfl (lv_at hl 3 rfl) ?_
  refine lv_aload hx hb d_AR_copyOfRangeByte_16 (lv_at hl 0 rfl) ?_
  refine lv_iconst (v := 0) hx hb d_AR_copyOfRangeByte_18 (by decide) ?_
  refine lv_aload_n hx hb d_AR_copyOfRangeByte_19 rfl (lv_at hl 2 rfl) ?_
  refine va_alen (v := (nI cap)) hx hb hK hP 0 0 rfl rfl rfl d_AR_copyOfRangeByte_20 ?_
  refine lv_iload_n hx hb d_AR_copyOfRangeByte_21 rfl (lv_at hl 3 rfl) ?_
  refine lv_isub hx hb d_AR_copyOfRangeByte_22 ?_
  refine W.eq (congrArg (fun z => F0 m 23 ls (.int z :: [.int 0, .ref bw, .int 0, .ref bv])) (pk_sub (a := cap) (b := 0) (by omega) : ((nI cap) - 0) = nI cap)) ?_
  refine lv_iload_n hx hb d_AR_copyOfRangeByte_23 rfl (lv_at hl 1 rfl) ?_
  refine va_mmin hx hb (hml.trans hl.1.symm) hown (htb _ m_229) (htb _ m_230) (htb _ m_13) (htb _ m_231) (Nat.le_of_ble_eq_true rfl) (Nat.le_of_ble_eq_true rfl) (Nat.le_of_ble_eq_true rfl) (Nat.le_of_ble_eq_true rfl) d_AR_copyOfRangeByte_24 ?_
  refine W.eq (congrArg (fun z => F0 m 27 ls (.int z :: [.int 0, .ref bw, .int 0, .ref bv])) (mm_min (by omega) (by omega) : (if (nI n) < (nI cap) then (nI n) else (nI cap)) = nI (Nat.min cap n))) ?_
  refine W.eq (congrArg (fun z => F0 m 27 ls (.int z :: [.int 0, .ref bw, .int 0, .ref bv])) (by rw [show Nat.min cap n = n from Nat.min_eq_right hc] : (nI (Nat.min cap n)) = nI n)) ?_
  refine va_copyi (ty := .byte) hx hb (hml.trans hl.1.symm) hown (htb _ m_232) (htb _ m_234) (htb _ m_233) (htb _ m_15) hK hP hD hS 0 1 0 0 rfl rfl rfl rfl rfl (by decide) (by decide) (nI_pos (by omega)) (by rw [nI_clamp (by omega)]; exact (by show 0 + n ≤ cap; omega)) (by rw [nI_clamp (by omega)]; exact (by show 0 + n ≤ n; omega)) (fun i _ => hf _) (Nat.le_of_ble_eq_true rfl) (by decide) d_AR_copyOfRangeByte_27 (fun H locs hP hD hS => ?_)
  rw [(by rw [nI_clamp (by omega)]; rfl : va_cpy f (fun _ => 0) (0 : Int32).toNatClampNeg (0 : Int32).toNatClampNeg (nI n).toNatClampNeg = (va_cpy f (fun _ => 0) 0 0 n))] at hP hD
  have hP : va_P (dC, dI) vwCl [(bv, .inl (cB, cap, .inl f)), (bw, .inl (cB, n, .inl (va_cpy f (fun _ => 0) 0 0 n)))] H := hP
  have hD : va_D A [(bv, .inl (cB, cap, .inl f)), (bw, .inl (cB, n, .inl (va_cpy f (fun _ => 0) 0 0 n)))] := hD
  refine lv_aload hx hb d_AR_copyOfRangeByte_30 (lv_at hl 0 rfl) ?_
  have hP9 := hP.sub (ws' := [(bv, .inl (cB, cap, .inl f)), (bw, .inl (cB, n, .inl (va_cpy f (fun _ => 0) 0 0 n)))]) [0, 1] rfl
  have hD9 := hD.sub (ws' := [(bv, .inl (cB, cap, .inl f)), (bw, .inl (cB, n, .inl (va_cpy f (fun _ => 0) 0 0 n)))]) [0, 1] (by decide) rfl
  have hK9 := hK.sub (tys' := [(cB, .byte)]) [0] rfl
  refine W.widen (k := 1) (n := 160) (Nat.le_of_ble_eq_true rfl) (Nat.le_of_ble_eq_true rfl) ?_
  exact W.aret (v := .ref bw) hx hb hr (Or.inr ⟨_, rfl⟩) (Or.inr ⟨_, rfl⟩) (fun t ht hW => ⟨⟨(), bw, rfl, trivial, ⟨by rw [ht]; exact hP9, va_K.moved hW.alike hK9, hD9⟩⟩, hS.F ht⟩) hS.2.2 d_AR_copyOfRangeByte_32
