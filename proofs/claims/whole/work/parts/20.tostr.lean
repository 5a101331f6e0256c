theorem g_O {Ts : List Cond} (hT : ∀ w ∈ TBL, w ∈ Ts) {v : Cond} (hv : v ∈ TBL) {own C owner : String} {i : Nat} {x y : MethodName} (h1 : Cond.methodLink own i x ∈ TBL) (h2 : Cond.sameMethod x.cls owner x.name x.desc ∈ TBL) (h6 : Cond.instanceMethod ⟨owner, x.name, x.desc⟩ ∈ TBL) (h3 : Cond.selects C x y ∈ TBL) (h4 : Cond.instanceMethod y ∈ TBL) (h5 : Cond.initialized y.cls ∈ TBL) : GoodIn Ts (va_wsO own i C owner x y (v :: TBL)) := by
  intro w h
  unfold va_wsO at h
  rcases List.mem_append.mp h with h | h
  · simp only [List.mem_cons, List.not_mem_nil, or_false] at h
    rcases h with rfl | rfl | rfl | rfl | rfl | rfl
    · exact ⟨hT _ h1, tb_ok h1⟩
    · exact ⟨hT _ h2, tb_ok h2⟩
    · exact ⟨hT _ h6, tb_ok h6⟩
    · exact ⟨hT _ h3, tb_ok h3⟩
    · exact ⟨hT _ h4, tb_ok h4⟩
    · exact ⟨hT _ h5, tb_ok h5⟩
  · exact g_all hT hv w h
theorem sb_fitcell {c : ClassId} {n : Nat} {f : Nat → Int32} (hf : sb_Fit f) : ∀ (i : Nat) (v : Value), (vp_cell c (n, .inl f)).slots[i]? = some v → fits .byte v = true := by
  intro i v h
  have h : (arrV c n (fun j => .int (f j))).slots[i]? = some v := h
  have hi : i < n := by
    have := (Array.getElem?_eq_some_iff.mp h).1
    rw [arrV_size] at this
    exact this
  rw [arrV_read _ _ hi] at h
  cases h
  exact hf i
set_option maxHeartbeats 1000000 in
set_option maxRecDepth 100000 in
/-- getValue() -/
theorem q_AB_getValue (l : Launch) (dC : Nat → ClassId) (dI : Nat → Nat → Nat) (x : Nat) (bv : Nat) (ml : Int32) (n : Nat) : Met l y_AB_getValue ws_AB_getValue ({ frames := 0, cells := 0, slots := 0, locals := 0 }) (va_Pc [.ref x] (fun U => va_P (dC, dI) vwCl [(x, .inr (13, [.ref bv, .int 0, .int ml, .int (nI n)]))] U.heap ∧ va_K (dC, dI) vwCl [] U)) (va_Sq (fun (r : Option Nat) => r = some bv)) 0 0 (fun _ => False) := by
  refine Met.ofW (cc := c_AB_getValue) (maxL := 1) (ret := (some (.array .byte))) (by decide) rfl ?_
  intro p e s m args below meth c s₁ B hml hv
  obtain ⟨rfl, hP, hK⟩ := hv
  have hx := B.exec
  have hb := B.bytes
  have hr := B.returns
  have hts := atoms_spec (ws := ws_AB_getValue) B.pre
  have htb := fun w (h : w ∈ TBL) => hts w (List.mem_cons_of_mem _ h)
  have hown : s.vm.findClass R_AB = some m.cls := findClass_of_methodNamed B.named
  have hlocks := B.notSynchronized
  have hl := lv_entry ([.ref x]) (n := 1) (Nat.le_of_ble_eq_true rfl)
  rw [lg_entry_eq]
  generalize (lg_sl ([.ref x]) ++ List.replicate (1 - (lg_sl ([.ref x])).length) Slot.unset).toArray = ls at hl ⊢
  have hl : lv_has ls 1 [(0, .ref x)] := hl
  refine lv_aload_n hx hb d_AB_getValue_0 rfl (lv_at hl 0 rfl) ?_
  refine va_get (D := (dC, dI)) (ci := 13) (v := .ref bv) (C := R_SB) (T := T_SB) (N := 4) hx hb htb in_SB hown hK hP 0 rfl rfl 0 (by decide) (htb _ m_55) (fun _ h9 => h9) rfl d_AB_getValue_1 ?_
  exact W.aret (v := .ref bv) hx hb hr (Or.inr ⟨_, rfl⟩) (Or.inr ⟨_, rfl⟩) (fun t ht hW => ⟨(some bv), rfl, rfl, ht⟩) (fun q h => absurd h List.not_mem_nil) d_AB_getValue_4
set_option maxHeartbeats 1000000 in
set_option maxRecDepth 100000 in
/-- Arrays.copyOfRange of the first n bytes -/
theorem k_AR_copyOfRange (l : Launch) (dC : Nat → ClassId) (dI : Nat → Nat → Nat) (sz : Nat) (bv : Nat) (cB : ClassId) (f : Nat → Int32) (cap : Nat) (n : Nat) (em : Nat) (aK : Nat → Nat) (aV : Nat → Nat) (hf : sb_Fit f) (hn : n ≤ 160) (hc : n ≤ cap) (hc2 : cap ≤ 286) : Met l y_AR_copyOfRange ws_AR_copyOfRange ({ frames := 2, cells := 1, slots := 160, locals := 64 }) (va_Pc [.ref bv, .int 0, .int (nI n)] (fun U => U.heap.size = sz ∧ va_P (dC, dI) vwCl [(bv, .inl (cB, cap, .inl f))] U.heap ∧ va_K (dC, dI) vwCl [(cB, .byte)] U ∧ va_D (fun _ => True) [(bv, .inl (cB, cap, .inl f))] ∧ EX em aK aV (va_A [(bv, .inl (cB, cap, .inl f))] sz) U U.heap)) (va_Qr (fun (u : Nat → Int32) => ∀ i, i < n → u i = f i) (fun u ra t => va_P (dC, dI) vwCl [(bv, .inl (cB, cap, .inl f)), (ra, .inl (cB, n, .inl u))] t.heap ∧ va_K (dC, dI) vwCl [(cB, .byte)] t ∧ va_D (va_A [(bv, .inl (cB, cap, .inl f))] sz) [(bv, .inl (cB, cap, .inl f)), (ra, .inl (cB, n, .inl u))]) (va_A [(bv, .inl (cB, cap, .inl f))] sz)) 1 160 (va_A [(bv, .inl (cB, cap, .inl f))] sz) := by
  refine Met.ofW (cc := c_AR_copyOfRange) (maxL := 3) (ret := (some (.array .byte))) (by decide) rfl ?_
  intro p e s m args below meth c s₁ B hml hv
  obtain ⟨rfl, hsz, hP, hK, hD0, hE⟩ := hv
  have hx := B.exec
  have hb := B.bytes
  have hr := B.returns
  have hts := atoms_spec (ws := ws_AR_copyOfRange) B.pre
  have htb := fun w (h : w ∈ TBL) => hts w (List.mem_cons_of_mem _ h)
  have hown : s.vm.findClass R_AR = some m.cls := findClass_of_methodNamed B.named
  have hlocks := B.notSynchronized
  subst hsz
  have hD := hD0.self (sz := s.heap.size)
  generalize hAe : va_A [(bv, .inl (cB, cap, .inl f))] s.heap.size = A at hD hE ⊢
  have hA : ∀ q : Nat, s.heap.size ≤ q → A q := fun q h => by rw [← hAe]; exact Or.inr h
  have hS : va_S A s.heap s.heap [] := va_S.rf
  have hP : va_P (dC, dI) vwCl [(bv, .inl (cB, cap, .inl f))] s.heap := hP
  have hl := lv_entry ([.ref bv, .int 0, .int (nI n)]) (n := 3) (Nat.le_of_ble_eq_true rfl)
  rw [lg_entry_eq]
  generalize (lg_sl ([.ref bv, .int 0, .int (nI n)]) ++ List.replicate (3 - (lg_sl ([.ref bv, .int 0, .int (nI n)])).length) Slot.unset).toArray = ls at hl ⊢
  have hl : lv_has ls 3 [(0, .ref bv), (1, .int 0), (2, .int (nI n))] := hl
  refine lv_iload_n hx hb d_AR_copyOfRange_0 rfl (lv_at hl 1 rfl) ?_
  refine lv_if_ne (tgt := 10) hx hb d_AR_copyOfRange_1 rfl (fun h9 => absurd (rfl) h9) (fun _ => ?_)
  refine lv_iload_n hx hb d_AR_copyOfRange_4 rfl (lv_at hl 2 rfl) ?_
  refine lv_aload_n hx hb d_AR_copyOfRange_5 rfl (lv_at hl 0 rfl) ?_
  refine va_alen (v := (nI cap)) hx hb hK hP 0 0 rfl rfl rfl d_AR_copyOfRange_6 ?_
  refine lv_icmp_eq (tgt := 17) hx hb d_AR_copyOfRange_7 rfl (fun h1 => ?_) (fun h1 => ?_)
  · obtain rfl : n = cap := (nI_eq (by omega) (by omega)).mp h1
    refine lv_aload_n hx hb d_AR_copyOfRange_17 rfl (lv_at hl 0 rfl) ?_
    refine va_clone (ad := "[B") (x := (n, .inl f)) (ty := .byte) hx hb (hml.trans hl.1.symm) hown (htb _ m_222) (htb _ m_223) (htb _ m_224) (htb _ m_225) (htb _ m_226) (nw_1 hE) hK hP hD hS hA 0 0 rfl rfl (hK.2 0 _ rfl).2 (sb_fitcell hf) (Nat.le_of_ble_eq_true rfl) (Nat.le_of_ble_eq_true rfl) (Nat.le_of_ble_eq_true rfl) (Nat.le_trans (Nat.add_le_add_left hn _) (Nat.le_of_ble_eq_true rfl)) d_AR_copyOfRange_18 (fun q H hK hP hD hS => ?_)
    have hP : va_P (dC, dI) vwCl [(bv, .inl (cB, n, .inl f)), (q, .inl (cB, n, .inl f))] H := hP
    have hD : va_D A [(bv, .inl (cB, n, .inl f)), (q, .inl (cB, n, .inl f))] := hD
    refine W.widen (k := 1) (n := 160) (Nat.le_of_ble_eq_true rfl) (Nat.add_le_add_left hn 0) ?_
    refine va_castA (nm := "[B") hx hb hown (htb _ m_228) hP 1 rfl (hK.2 0 _ rfl).2 d_AR_copyOfRange_21 ?_
    have hP9 := hP.sub (ws' := [(bv, .inl (cB, n, .inl f)), (q, .inl (cB, n, .inl f))]) [0, 1] rfl
    have hD9 := hD.sub (ws' := [(bv, .inl (cB, n, .inl f)), (q, .inl (cB, n, .inl f))]) [0, 1] (by decide) rfl
    have hK9 := hK.sub (tys' := [(cB, .byte)]) [0] rfl
    refine W.widen (k := 1) (n := 160) (Nat.le_of_ble_eq_true rfl) (Nat.le_of_ble_eq_true rfl) ?_
    exact W.aret (v := .ref q) hx hb hr (Or.inr ⟨_, rfl⟩) (Or.inr ⟨_, rfl⟩) (fun t ht hW => ⟨⟨f, q, rfl, fun _ _ => rfl, ⟨by rw [ht]; exact hP9, va_K.moved hW.alike hK9, hD9⟩⟩, hS.F ht⟩) hS.2.2 d_AR_copyOfRange_24
  · refine lv_aload_n hx hb d_AR_copyOfRange_10 rfl (lv_at hl 0 rfl) ?_
    refine lv_iload_n hx hb d_AR_copyOfRange_11 rfl (lv_at hl 1 rfl) ?_
    refine lv_iload_n hx hb d_AR_copyOfRange_12 rfl (lv_at hl 2 rfl) ?_
    have hPc := hP.sub (ws' := [(bv, .inl (cB, cap, .inl f))]) [0] rfl
    have hDc := hD.sub (ws' := [(bv, .inl (cB, cap, .inl f))]) [0] (by decide) rfl
    have hFc := va_free (wc := [(bv, .inl (cB, cap, .inl f))]) hD hS hA [0] rfl
    have hKc := hK.sub (tys' := [(cB, .byte)]) [0] rfl
    refine va_callr (va_runS (As := [.ref bv, .int 0, .int (nI n)]) (rest := []) ⟨hx, hb, hml, hown, htb⟩ (k_AR_copyOfRangeByte l dC dI _ bv cB f cap n hf hn hc hc2) (va_cwS 3 htb (g_S (fun _ h => h) m_285 m_283 m_284 m_14) rfl rfl rfl (by decide +kernel) ⟨Nat.le_of_ble_eq_true rfl, Nat.le_of_ble_eq_true rfl⟩) ⟨fun a U g mk q => by obtain ⟨q0, q1, qP, qK, qD⟩ := q; exact ⟨q0, q1, qP, va_K.moved (u := U) (U := U.calling g mk a) (Vm.Alike.refl U.vm) qK, qD⟩, fun U hU hW => ⟨rfl, by rw [hU], by rw [hU]; exact hPc, va_K.moved hW.alike hKc, hDc.weaken (fun _ _ _ _ => trivial)⟩⟩ rfl rfl hl.1 rfl (lv_room (Nat.le_of_ble_eq_true rfl)) d_AR_copyOfRange_13 ⟨Nat.le_of_ble_eq_true rfl, Nat.le_of_ble_eq_true rfl⟩) hS (fun q _ h => hFc q h) hFc (fun u1 ra4 t H1 locs ht hvm hw3 hB hz1 hk1 hS => ?_)
    obtain ⟨hP1, hK1, hD1⟩ := hB
    rw [ht] at hP1
    have hK1 := va_K.moved hvm.symm hK1
    have hw3 : True := hw3
    obtain ⟨hP, hD⟩ := va_join (wr := []) (w1 := [(bv, .inl (cB, cap, .inl f)), (ra4, .inl (cB, n, .inl (va_cpy f (fun _ => 0) 0 0 n)))]) hP hD [0] [] rfl rfl (by decide) (by decide) hk1 hFc hP1 hD1
    have hK := (hK.sub (tys' := []) [] rfl).app hK1
    generalize H1 = H at hP hS ⊢
    have hP : va_P (dC, dI) vwCl [(bv, .inl (cB, cap, .inl f)), (ra4, .inl (cB, n, .inl (va_cpy f (fun _ => 0) 0 0 n)))] H := hP
    have hD : va_D A [(bv, .inl (cB, cap, .inl f)), (ra4, .inl (cB, n, .inl (va_cpy f (fun _ => 0) 0 0 n)))] := hD
    have hK : va_K (dC, dI) vwCl [(cB, .byte)] s := hK
    refine W.widen (k := 1) (n := 160) (Nat.le_of_ble_eq_true rfl) (Nat.le_of_ble_eq_true rfl) ?_
    have hP9 := hP.sub (ws' := [(bv, .inl (cB, cap, .inl f)), (ra4, .inl (cB, n, .inl (va_cpy f (fun _ => 0) 0 0 n)))]) [0, 1] rfl
    have hD9 := hD.sub (ws' := [(bv, .inl (cB, cap, .inl f)), (ra4, .inl (cB, n, .inl (va_cpy f (fun _ => 0) 0 0 n)))]) [0, 1] (by decide) rfl
    have hK9 := hK.sub (tys' := [(cB, .byte)]) [0] rfl
    refine W.widen (k := 1) (n := 160) (Nat.le_of_ble_eq_true rfl) (Nat.le_of_ble_eq_true rfl) ?_
    exact W.aret (v := .ref ra4) hx hb hr (Or.inr ⟨_, rfl⟩) (Or.inr ⟨_, rfl⟩) (fun t ht hW => ⟨⟨(va_cpy f (fun _ => 0) 0 0 n), ra4, rfl, fun i hi => by simp [va_cpy, hi], ⟨by rw [ht]; exact hP9, va_K.moved hW.alike hK9, hD9⟩⟩, hS.F ht⟩) hS.2.2 d_AR_copyOfRange_16
set_option maxHeartbeats 1000000 in
set_option maxRecDepth 100000 in
/-- String(AbstractStringBuilder, Void) -/
theorem k_ST_init2 (l : Launch) (dC : Nat → ClassId) (dI : Nat → Nat → Nat) (sz : Nat) (y : Nat) (x : Nat) (bv : Nat) (ml : Int32) (n : Nat) (cB : ClassId) (f : Nat → Int32) (cap : Nat) (em : Nat) (aK : Nat → Nat) (aV : Nat → Nat) (hf : sb_Fit f) (hn : n ≤ 160) (hc : n ≤ cap) (hc2 : cap ≤ 286) : Met l y_ST_init2 ws_ST_init2 ({ frames := 3, cells := 1, slots := 160, locals := 86 }) (va_Pc [.ref y, .ref x, .null] (fun U => U.heap.size = sz ∧ va_P (dC, dI) vwCl [(y, .inr (15, [.null, .int 0, .int 0, .int 0])), (x, .inr (13, [.ref bv, .int 0, .int ml, .int (nI n)])), (bv, .inl (cB, cap, .inl f))] U.heap ∧ va_K (dC, dI) vwCl [(cB, .byte)] U ∧ va_D (fun _ => True) [(y, .inr (15, [.null, .int 0, .int 0, .int 0])), (x, .inr (13, [.ref bv, .int 0, .int ml, .int (nI n)])), (bv, .inl (cB, cap, .inl f))] ∧ EX em aK aV (va_A [(y, .inr (15, [.null, .int 0, .int 0, .int 0])), (x, .inr (13, [.ref bv, .int 0, .int ml, .int (nI n)])), (bv, .inl (cB, cap, .inl f))] sz) U U.heap)) (va_Qv (fun (u : Nat → Int32) => ∀ i, i < n → u i = f i) (fun u t => ∃ (bw : Nat), va_P (dC, dI) vwCl [(y, .inr (15, [.ref bw, .int 0, .int 0, .int 0])), (x, .inr (13, [.ref bv, .int 0, .int ml, .int (nI n)])), (bv, .inl (cB, cap, .inl f)), (bw, .inl (cB, n, .inl u))] t.heap ∧ va_K (dC, dI) vwCl [(cB, .byte)] t ∧ va_D (va_A [(y, .inr (15, [.null, .int 0, .int 0, .int 0])), (x, .inr (13, [.ref bv, .int 0, .int ml, .int (nI n)])), (bv, .inl (cB, cap, .inl f))] sz) [(y, .inr (15, [.ref bw, .int 0, .int 0, .int 0])), (x, .inr (13, [.ref bv, .int 0, .int ml, .int (nI n)])), (bv, .inl (cB, cap, .inl f)), (bw, .inl (cB, n, .inl u))]) (va_A [(y, .inr (15, [.null, .int 0, .int 0, .int 0])), (x, .inr (13, [.ref bv, .int 0, .int ml, .int (nI n)])), (bv, .inl (cB, cap, .inl f))] sz)) 1 160 (va_A [(y, .inr (15, [.null, .int 0, .int 0, .int 0])), (x, .inr (13, [.ref bv, .int 0, .int ml, .int (nI n)])), (bv, .inl (cB, cap, .inl f))] sz) := by
  refine Met.ofW (cc := c_ST_init2) (maxL := 5) (ret := none) (by decide) rfl ?_
  intro p e s m args below meth c s₁ B hml hv
  obtain ⟨rfl, hsz, hP, hK, hD0, hE⟩ := hv
  have hx := B.exec
  have hb := B.bytes
  have hr := B.returns
  have hts := atoms_spec (ws := ws_ST_init2) B.pre
  have htb := fun w (h : w ∈ TBL) => hts w (List.mem_cons_of_mem _ h)
  have hown : s.vm.findClass R_ST = some m.cls := findClass_of_methodNamed B.named
  have hlocks := B.notSynchronized
  have hin : meth.name = "<init>" := (name_of_methodNamed B.named B.method).1
  subst hsz
  have hD := hD0.self (sz := s.heap.size)
  generalize hAe : va_A [(y, .inr (15, [.null, .int 0, .int 0, .int 0])), (x, .inr (13, [.ref bv, .int 0, .int ml, .int (nI n)])), (bv, .inl (cB, cap, .inl f))] s.heap.size = A at hD hE ⊢
  have hA : ∀ q : Nat, s.heap.size ≤ q → A q := fun q h => by rw [← hAe]; exact Or.inr h
  have hS : va_S A s.heap s.heap [] := va_S.rf
  have hP : va_P (dC, dI) vwCl [(y, .inr (15, [.null, .int 0, .int 0, .int 0])), (x, .inr (13, [.ref bv, .int 0, .int ml, .int (nI n)])), (bv, .inl (cB, cap, .inl f))] s.heap := hP
  have hl := lv_entry ([.ref y, .ref x, .null]) (n := 5) (Nat.le_of_ble_eq_true rfl)
  rw [lg_entry_eq]
  generalize (lg_sl ([.ref y, .ref x, .null]) ++ List.replicate (5 - (lg_sl ([.ref y, .ref x, .null])).length) Slot.unset).toArray = ls at hl ⊢
  have hl : lv_has ls 5 [(0, .ref y), (1, .ref x), (2, .null)] := hl
  refine lv_aload_n hx hb d_ST_init2_0 rfl (lv_at hl 0 rfl) ?_
  refine W.objInit hx hb hown (htb _ m_265) (htb _ m_35) (htb _ m_36) rfl (by rw [hml]; exact hl.1) rfl d_ST_init2_1 (Nat.le_of_ble_eq_true rfl) (Nat.le_of_ble_eq_true rfl) ?_
  refine W.eq (g2 := F0 m 4 ls []) rfl ?_
  refine lv_aload_n hx hb d_ST_init2_4 rfl (lv_at hl 1 rfl) ?_
  have hPc : va_P (dC, dI) vwCl [(x, .inr (13, [.ref bv, .int 0, .int ml, .int (nI n)]))] _ := hP.sub (ws' := [(x, .inr (13, [.ref bv, .int 0, .int ml, .int (nI n)]))]) [1] rfl
  have hKc := hK.sub (tys' := []) [] rfl
  refine va_csq (va_Run.run (va_runU (As := []) (rest := []) ⟨hx, hb, hml, hown, htb⟩ (q_AB_getValue l dC dI x bv ml n ) (va_cwU 0 htb (g_U (fun _ h => h) m_270 m_266 m_268 m_269 m_267 m_2) rfl rfl rfl rfl (by decide +kernel) ⟨Nat.le_of_ble_eq_true rfl, Nat.le_of_ble_eq_true rfl⟩) ⟨fun a U g mk q => by obtain ⟨q0, qP, qK⟩ := q; exact ⟨q0, qP, va_K.moved (u := U) (U := U.calling g mk a) (Vm.Alike.refl U.vm) qK⟩, va_recv hKc hPc (ci := 13) rfl (q0 := 0) rfl, fun U hU hW => ⟨rfl, by rw [hU]; exact hPc, va_K.moved hW.alike hKc⟩⟩ rfl rfl hl.1 rfl (lv_room (Nat.le_of_ble_eq_true rfl)) d_ST_init2_5 ⟨Nat.le_of_ble_eq_true rfl, Nat.le_of_ble_eq_true rfl⟩)) (fun r1 hw2 => ?_)
  have hw2 : r1 = some bv := hw2
  obtain rfl := hw2
  refine W.eq (g2 := F0 m 8 ls [.ref bv]) rfl ?_
  refine lv_astore_n hx hb d_ST_init2_8 rfl hl (by decide) rfl (fun ls hl => ?_)
  have hl : lv_has ls 5 [(3, .ref bv), (0, .ref y), (1, .ref x), (2, .null)] := hl
  refine lv_aload_n hx hb d_ST_init2_9 rfl (lv_at hl 2 rfl) ?_
  have hPc : va_P (dC, dI) vwCl [(x, .inr (13, [.ref bv, .int 0, .int ml, .int (nI n)]))] _ := hP.sub (ws' := [(x, .inr (13, [.ref bv, .int 0, .int ml, .int (nI n)]))]) [1] rfl
  have hKc := hK.sub (tys' := []) [] rfl
  refine vp_callSi (va_Run.run (va_runU (As := []) (rest := []) ⟨hx, hb, hml, hown, htb⟩ (q_SB_length l dC dI x bv ml n ) (va_cwO 0 htb (g_O (fun _ h => h) m_276 m_271 m_273 m_272 m_274 m_275 m_3) rfl rfl rfl m_278 (by decide +kernel) ⟨Nat.le_of_ble_eq_true rfl, Nat.le_of_ble_eq_true rfl⟩) ⟨fun a U g mk q => by obtain ⟨q0, qP, qK⟩ := q; exact ⟨q0, qP, va_K.moved (u := U) (U := U.calling g mk a) (Vm.Alike.refl U.vm) qK⟩, va_recv hKc hPc (ci := 13) rfl (q0 := 0) rfl, fun U hU hW => ⟨rfl, by rw [hU]; exact hPc, va_K.moved hW.alike hKc⟩⟩ rfl rfl hl.1 rfl (lv_room (Nat.le_of_ble_eq_true rfl)) d_ST_init2_10 ⟨Nat.le_of_ble_eq_true rfl, Nat.le_of_ble_eq_true rfl⟩)) (fun r3 hw4 => ?_)
  have hw4 : r3 = nI n := hw4
  obtain rfl := hw4
  refine lv_istore hx hb d_ST_init2_13 hl (by decide) rfl (fun ls hl => ?_)
  have hl : lv_has ls 5 [(4, .int (nI n)), (3, .ref bv), (0, .ref y), (1, .ref x), (2, .null)] := hl
  refine lv_aload_n hx hb d_ST_init2_15 rfl (lv_at hl 3 rfl) ?_
  have hPc : va_P (dC, dI) vwCl [(x, .inr (13, [.ref bv, .int 0, .int ml, .int (nI n)]))] _ := hP.sub (ws' := [(x, .inr (13, [.ref bv, .int 0, .int ml, .int (nI n)]))]) [1] rfl
  have hKc := hK.sub (tys' := []) [] rfl
  refine vp_callSi (va_Run.run (va_runU (As := []) (rest := []) ⟨hx, hb, hml, hown, htb⟩ (q_AB_isLatin1 l dC dI x bv ml n em aK aV A ) (va_cwU 0 htb (g_U (fun _ h => h) m_239 m_279 m_237 m_238 m_236 m_2) rfl rfl rfl rfl (by decide +kernel) ⟨Nat.le_of_ble_eq_true rfl, Nat.le_of_ble_eq_true rfl⟩) ⟨fun a U g mk q => by obtain ⟨q0, qP, qK, z0⟩ := q; exact ⟨q0, qP, va_K.moved (u := U) (U := U.calling g mk a) (Vm.Alike.refl U.vm) qK, EX.same (U := U) (U' := U.calling g mk a) rfl z0⟩, va_recv hKc hPc (ci := 13) rfl (q0 := 0) rfl, fun U hU hW => ⟨rfl, by rw [hU]; exact hPc, va_K.moved hW.alike hKc, by rw [hU]; exact EX.warm hW (hE.kept (fun a h1 h2 => hS.2.1 a h1 h2))⟩⟩ rfl rfl hl.1 rfl (lv_room (Nat.le_of_ble_eq_true rfl)) d_ST_init2_16 ⟨Nat.le_of_ble_eq_true rfl, Nat.le_of_ble_eq_true rfl⟩)) (fun r5 hw6 => ?_)
  have hw6 : r5 = 1 := hw6
  refine lv_if_eq (tgt := 41) hx hb d_ST_init2_19 rfl (fun h9 => absurd h9 (by rw [hw6]; decide)) (fun _ => ?_)
  refine lv_aload_n hx hb d_ST_init2_22 rfl (lv_at hl 2 rfl) ?_
  refine lv_iconst (v := 0) hx hb d_ST_init2_23 (by decide) ?_
  refine va_putF (D := (dC, dI)) (ci := 15) (v := .int 0) (ty := .byte) (C := R_ST) (T := T_ST) (N := 4) hx hb htb in_ST ty_ST ty_ST_ok nm_ST hown hK hP hD hS 0 rfl rfl 1 (by decide) (htb _ m_324) (fun _ h9 => h9) rfl hin rfl (by decide +kernel) rfl rfl (Nat.le_of_ble_eq_true rfl) d_ST_init2_24 (fun H locs hP hD hS => ?_)
  have hP : va_P (dC, dI) vwCl [(y, .inr (15, [.null, .int 0, .int 0, .int 0])), (x, .inr (13, [.ref bv, .int 0, .int ml, .int (nI n)])), (bv, .inl (cB, cap, .inl f))] H := hP
  have hD : va_D A [(y, .inr (15, [.null, .int 0, .int 0, .int 0])), (x, .inr (13, [.ref bv, .int 0, .int ml, .int (nI n)])), (bv, .inl (cB, cap, .inl f))] := hD
  refine lv_aload_n hx hb d_ST_init2_27 rfl (lv_at hl 2 rfl) ?_
  refine lv_aload_n hx hb d_ST_init2_28 rfl (lv_at hl 1 rfl) ?_
  refine lv_iconst (v := 0) hx hb d_ST_init2_29 (by decide) ?_
  refine lv_iload hx hb d_ST_init2_30 (lv_at hl 0 rfl) ?_
  have hPc := hP.sub (ws' := [(bv, .inl (cB, cap, .inl f))]) [2] rfl
  have hDc := hD.sub (ws' := [(bv, .inl (cB, cap, .inl f))]) [2] (by decide) rfl
  have hFc := va_free (wc := [(bv, .inl (cB, cap, .inl f))]) hD hS hA [2] rfl
  have hKc := hK.sub (tys' := [(cB, .byte)]) [0] rfl
  refine va_callr (va_runS (As := [.ref bv, .int 0, .int (nI n)]) (rest := [.ref y]) ⟨hx, hb, hml, hown, htb⟩ (k_AR_copyOfRange l dC dI _ bv cB f cap n em aK aV hf hn hc hc2) (va_cwS 3 htb (g_S (fun _ h => h) m_282 m_280 m_281 m_14) rfl rfl rfl (by decide +kernel) ⟨Nat.le_of_ble_eq_true rfl, Nat.le_of_ble_eq_true rfl⟩) ⟨fun a U g mk q => by obtain ⟨q0, q1, qP, qK, qD, z0⟩ := q; exact ⟨q0, q1, qP, va_K.moved (u := U) (U := U.calling g mk a) (Vm.Alike.refl U.vm) qK, qD, EX.same (U := U) (U' := U.calling g mk a) rfl z0⟩, fun U hU hW => ⟨rfl, by rw [hU], by rw [hU]; exact hPc, va_K.moved hW.alike hKc, hDc.weaken (fun _ _ _ _ => trivial), by rw [hU]; exact EX.warm hW ((hE.kept (fun a h1 h2 => hS.2.1 a h1 h2)).narrow hFc)⟩⟩ rfl rfl hl.1 rfl (lv_room (Nat.le_of_ble_eq_true rfl)) d_ST_init2_32 ⟨Nat.le_of_ble_eq_true rfl, Nat.le_of_ble_eq_true rfl⟩) hS (fun q _ h => hFc q h) hFc (fun u7 ra10 t H1 locs ht hvm hw9 hB hz1 hk1 hS => ?_)
  obtain ⟨hP1, hK1, hD1⟩ := hB
  rw [ht] at hP1
  have hK1 := va_K.moved hvm.symm hK1
  have hw9 : ∀ i, i < n → u7 i = f i := hw9
  obtain ⟨hP, hD⟩ := va_join (wr := [(y, .inr (15, [.null, .int 0, .int 0, .int 0])), (x, .inr (13, [.ref bv, .int 0, .int ml, .int (nI n)]))]) (w1 := [(bv, .inl (cB, cap, .inl f)), (ra10, .inl (cB, n, .inl u7))]) hP hD [2] [0, 1] rfl rfl (by decide) (by decide) hk1 hFc hP1 hD1
  have hK := (hK.sub (tys' := []) [] rfl).app hK1
  generalize H1 = H at hP hS ⊢
  have hP : va_P (dC, dI) vwCl [(y, .inr (15, [.null, .int 0, .int 0, .int 0])), (x, .inr (13, [.ref bv, .int 0, .int ml, .int (nI n)])), (bv, .inl (cB, cap, .inl f)), (ra10, .inl (cB, n, .inl u7))] H := hP
  have hD : va_D A [(y, .inr (15, [.null, .int 0, .int 0, .int 0])), (x, .inr (13, [.ref bv, .int 0, .int ml, .int (nI n)])), (bv, .inl (cB, cap, .inl f)), (ra10, .inl (cB, n, .inl u7))] := hD
  have hK : va_K (dC, dI) vwCl [(cB, .byte)] s := hK
  refine W.widen (k := 1) (n := 160) (Nat.le_of_ble_eq_true rfl) (Nat.le_of_ble_eq_true rfl) ?_
  refine va_putF (D := (dC, dI)) (ci := 15) (v := .ref ra10) (ty := (.array .byte)) (C := R_ST) (T := T_ST) (N := 4) hx hb htb in_ST ty_ST ty_ST_ok nm_ST hown hK hP hD hS 0 rfl rfl 0 (by decide) (htb _ m_323) (fun _ h9 => h9) rfl hin rfl (by decide +kernel) rfl rfl (Nat.le_of_ble_eq_true rfl) d_ST_init2_35 (fun H locs hP hD hS => ?_)
  have hP : va_P (dC, dI) vwCl [(y, .inr (15, [.ref ra10, .int 0, .int 0, .int 0])), (x, .inr (13, [.ref bv, .int 0, .int ml, .int (nI n)])), (bv, .inl (cB, cap, .inl f)), (ra10, .inl (cB, n, .inl u7))] H := hP
  have hD : va_D A [(y, .inr (15, [.ref ra10, .int 0, .int 0, .int 0])), (x, .inr (13, [.ref bv, .int 0, .int ml, .int (nI n)])), (bv, .inl (cB, cap, .inl f)), (ra10, .inl (cB, n, .inl u7))] := hD
  refine lv_goto (tgt := 97) hx hb d_ST_init2_38 rfl ?_
  have hP9 := hP.sub (ws' := [(y, .inr (15, [.ref ra10, .int 0, .int 0, .int 0])), (x, .inr (13, [.ref bv, .int 0, .int ml, .int (nI n)])), (bv, .inl (cB, cap, .inl f)), (ra10, .inl (cB, n, .inl u7))]) [0, 1, 2, 3] rfl
  have hD9 := hD.sub (ws' := [(y, .inr (15, [.ref ra10, .int 0, .int 0, .int 0])), (x, .inr (13, [.ref bv, .int 0, .int ml, .int (nI n)])), (bv, .inl (cB, cap, .inl f)), (ra10, .inl (cB, n, .inl u7))]) [0, 1, 2, 3] (by decide) rfl
  have hK9 := hK.sub (tys' := [(cB, .byte)]) [0] rfl
  refine W.widen (k := 1) (n := 160) (Nat.le_of_ble_eq_true rfl) (Nat.le_of_ble_eq_true rfl) ?_
  exact W.vret hx hb hr (fun t ht hW => ⟨⟨u7, rfl, hw9, ⟨ra10, by rw [ht]; exact hP9, va_K.moved hW.alike hK9, hD9⟩⟩, hS.F ht⟩) hS.2.2 d_ST_init2_97
set_option maxHeartbeats 1000000 in
set_option maxRecDepth 100000 in
/-- String(StringBuilder) -/
theorem k_ST_init (l : Launch) (dC : Nat → ClassId) (dI : Nat → Nat → Nat) (sz : Nat) (y : Nat) (x : Nat) (bv : Nat) (ml : Int32) (n : Nat) (cB : ClassId) (f : Nat → Int32) (cap : Nat) (em : Nat) (aK : Nat → Nat) (aV : Nat → Nat) (hf : sb_Fit f) (hn : n ≤ 160) (hc : n ≤ cap) (hc2 : cap ≤ 286) : Met l y_ST_init ws_ST_init ({ frames := 4, cells := 1, slots := 160, locals := 110 }) (va_Pc [.ref y, .ref x] (fun U => U.heap.size = sz ∧ va_P (dC, dI) vwCl [(y, .inr (15, [.null, .int 0, .int 0, .int 0])), (x, .inr (13, [.ref bv, .int 0, .int ml, .int (nI n)])), (bv, .inl (cB, cap, .inl f))] U.heap ∧ va_K (dC, dI) vwCl [(cB, .byte)] U ∧ va_D (fun _ => True) [(y, .inr (15, [.null, .int 0, .int 0, .int 0])), (x, .inr (13, [.ref bv, .int 0, .int ml, .int (nI n)])), (bv, .inl (cB, cap, .inl f))] ∧ EX em aK aV (va_A [(y, .inr (15, [.null, .int 0, .int 0, .int 0])), (x, .inr (13, [.ref bv, .int 0, .int ml, .int (nI n)])), (bv, .inl (cB, cap, .inl f))] sz) U U.heap)) (va_Qv (fun (u : Nat → Int32) => ∀ i, i < n → u i = f i) (fun u t => ∃ (bw : Nat), va_P (dC, dI) vwCl [(y, .inr (15, [.ref bw, .int 0, .int 0, .int 0])), (x, .inr (13, [.ref bv, .int 0, .int ml, .int (nI n)])), (bv, .inl (cB, cap, .inl f)), (bw, .inl (cB, n, .inl u))] t.heap ∧ va_K (dC, dI) vwCl [(cB, .byte)] t ∧ va_D (va_A [(y, .inr (15, [.null, .int 0, .int 0, .int 0])), (x, .inr (13, [.ref bv, .int 0, .int ml, .int (nI n)])), (bv, .inl (cB, cap, .inl f))] sz) [(y, .inr (15, [.ref bw, .int 0, .int 0, .int 0])), (x, .inr (13, [.ref bv, .int 0, .int ml, .int (nI n)])), (bv, .inl (cB, cap, .inl f)), (bw, .inl (cB, n, .inl u))]) (va_A [(y, .inr (15, [.null, .int 0, .int 0, .int 0])), (x, .inr (13, [.ref bv, .int 0, .int ml, .int (nI n)])), (bv, .inl (cB, cap, .inl f))] sz)) 1 160 (va_A [(y, .inr (15, [.null, .int 0, .int 0, .int 0])), (x, .inr (13, [.ref bv, .int 0, .int ml, .int (nI n)])), (bv, .inl (cB, cap, .inl f))] sz) := by
  refine Met.ofW (cc := c_ST_init) (maxL := 2) (ret := none) (by decide) rfl ?_
  intro p e s m args below meth c s₁ B hml hv
  obtain ⟨rfl, hsz, hP, hK, hD0, hE⟩ := hv
  have hx := B.exec
  have hb := B.bytes
  have hr := B.returns
  have hts := atoms_spec (ws := ws_ST_init) B.pre
  have htb := fun w (h : w ∈ TBL) => hts w (List.mem_cons_of_mem _ h)
  have hown : s.vm.findClass R_ST = some m.cls := findClass_of_methodNamed B.named
  have hlocks := B.notSynchronized
  have hin : meth.name = "<init>" := (name_of_methodNamed B.named B.method).1
  subst hsz
  have hD := hD0.self (sz := s.heap.size)
  generalize hAe : va_A [(y, .inr (15, [.null, .int 0, .int 0, .int 0])), (x, .inr (13, [.ref bv, .int 0, .int ml, .int (nI n)])), (bv, .inl (cB, cap, .inl f))] s.heap.size = A at hD hE ⊢
  have hA : ∀ q : Nat, s.heap.size ≤ q → A q := fun q h => by rw [← hAe]; exact Or.inr h
  have hS : va_S A s.heap s.heap [] := va_S.rf
  have hP : va_P (dC, dI) vwCl [(y, .inr (15, [.null, .int 0, .int 0, .int 0])), (x, .inr (13, [.ref bv, .int 0, .int ml, .int (nI n)])), (bv, .inl (cB, cap, .inl f))] s.heap := hP
  have hl := lv_entry ([.ref y, .ref x]) (n := 2) (Nat.le_of_ble_eq_true rfl)
  rw [lg_entry_eq]
  generalize (lg_sl ([.ref y, .ref x]) ++ List.replicate (2 - (lg_sl ([.ref y, .ref x])).length) Slot.unset).toArray = ls at hl ⊢
  have hl : lv_has ls 2 [(0, .ref y), (1, .ref x)] := hl
  refine lv_aload_n hx hb d_ST_init_0 rfl (lv_at hl 0 rfl) ?_
  refine lv_aload_n hx hb d_ST_init_1 rfl (lv_at hl 1 rfl) ?_
  refine lv_null hx hb d_ST_init_2 ?_
  have hPc := hP.sub (ws' := [(y, .inr (15, [.null, .int 0, .int 0, .int 0])), (x, .inr (13, [.ref bv, .int 0, .int ml, .int (nI n)])), (bv, .inl (cB, cap, .inl f))]) [0, 1, 2] rfl
  have hDc := hD.sub (ws' := [(y, .inr (15, [.null, .int 0, .int 0, .int 0])), (x, .inr (13, [.ref bv, .int 0, .int ml, .int (nI n)])), (bv, .inl (cB, cap, .inl f))]) [0, 1, 2] (by decide) rfl
  have hFc := va_free (wc := [(y, .inr (15, [.null, .int 0, .int 0, .int 0])), (x, .inr (13, [.ref bv, .int 0, .int ml, .int (nI n)])), (bv, .inl (cB, cap, .inl f))]) hD hS hA [0, 1, 2] rfl
  have hKc := hK.sub (tys' := [(cB, .byte)]) [0] rfl
  refine va_callv (va_runI (As := [.ref x, .null]) (rest := []) ⟨hx, hb, hml, hown, htb⟩ (k_ST_init2 l dC dI _ y x bv ml n cB f cap em aK aV hf hn hc hc2) (cwI 2 htb (g_all (fun _ h => h) m_264) rfl rfl rfl (htb _ m_4) (htb _ m_262) (htb _ m_263) rfl (by decide +kernel) ⟨Nat.le_of_ble_eq_true rfl, Nat.le_of_ble_eq_true rfl⟩) ⟨fun a U g mk q => by obtain ⟨q0, q1, qP, qK, qD, z0⟩ := q; exact ⟨q0, q1, qP, va_K.moved (u := U) (U := U.calling g mk a) (Vm.Alike.refl U.vm) qK, qD, EX.same (U := U) (U' := U.calling g mk a) rfl z0⟩, fun U hU hW => ⟨rfl, by rw [hU], by rw [hU]; exact hPc, va_K.moved hW.alike hKc, hDc.weaken (fun _ _ _ _ => trivial), by rw [hU]; exact EX.warm hW ((hE.kept (fun a h1 h2 => hS.2.1 a h1 h2)).narrow hFc)⟩⟩ rfl rfl hl.1 rfl (lv_room (Nat.le_of_ble_eq_true rfl)) d_ST_init_3 ⟨Nat.le_of_ble_eq_true rfl, Nat.le_of_ble_eq_true rfl⟩) hS (fun q _ h => hFc q h) hFc (fun u1 t H1 locs ht hvm hw3 hB hz1 hk1 hS => ?_)
  obtain ⟨x5, hP1, hK1, hD1⟩ := hB
  rw [ht] at hP1
  have hK1 := va_K.moved hvm.symm hK1
  have hw3 : ∀ i, i < n → u1 i = f i := hw3
  obtain ⟨hP, hD⟩ := va_join (wr := []) (w1 := [(y, .inr (15, [.ref x5, .int 0, .int 0, .int 0])), (x, .inr (13, [.ref bv, .int 0, .int ml, .int (nI n)])), (bv, .inl (cB, cap, .inl f)), (x5, .inl (cB, n, .inl u1))]) hP hD [0, 1, 2] [] rfl rfl (by decide) (by decide) hk1 hFc hP1 hD1
  have hK := (hK.sub (tys' := []) [] rfl).app hK1
  generalize H1 = H at hP hS ⊢
  have hP : va_P (dC, dI) vwCl [(y, .inr (15, [.ref x5, .int 0, .int 0, .int 0])), (x, .inr (13, [.ref bv, .int 0, .int ml, .int (nI n)])), (bv, .inl (cB, cap, .inl f)), (x5, .inl (cB, n, .inl u1))] H := hP
  have hD : va_D A [(y, .inr (15, [.ref x5, .int 0, .int 0, .int 0])), (x, .inr (13, [.ref bv, .int 0, .int ml, .int (nI n)])), (bv, .inl (cB, cap, .inl f)), (x5, .inl (cB, n, .inl u1))] := hD
  have hK : va_K (dC, dI) vwCl [(cB, .byte)] s := hK
  refine W.widen (k := 1) (n := 160) (Nat.le_of_ble_eq_true rfl) (Nat.le_of_ble_eq_true rfl) ?_
  have hP9 := hP.sub (ws' := [(y, .inr (15, [.ref x5, .int 0, .int 0, .int 0])), (x, .inr (13, [.ref bv, .int 0, .int ml, .int (nI n)])), (bv, .inl (cB, cap, .inl f)), (x5, .inl (cB, n, .inl u1))]) [0, 1, 2, 3] rfl
  have hD9 := hD.sub (ws' := [(y, .inr (15, [.ref x5, .int 0, .int 0, .int 0])), (x, .inr (13, [.ref bv, .int 0, .int ml, .int (nI n)])), (bv, .inl (cB, cap, .inl f)), (x5, .inl (cB, n, .inl u1))]) [0, 1, 2, 3] (by decide) rfl
  have hK9 := hK.sub (tys' := [(cB, .byte)]) [0] rfl
  refine W.widen (k := 1) (n := 160) (Nat.le_of_ble_eq_true rfl) (Nat.le_of_ble_eq_true rfl) ?_
  exact W.vret hx hb hr (fun t ht hW => ⟨⟨u1, rfl, hw3, ⟨x5, by rw [ht]; exact hP9, va_K.moved hW.alike hK9, hD9⟩⟩, hS.F ht⟩) hS.2.2 d_ST_init_6
set_option maxHeartbeats 1000000 in
set_option maxRecDepth 100000 in
/-- toString() -/
theorem k_SB_toString (l : Launch) (dC : Nat → ClassId) (dI : Nat → Nat → Nat) (sz : Nat) (x : Nat) (bv : Nat) (ml : Int32) (n : Nat) (cB : ClassId) (f : Nat → Int32) (cap : Nat) (em : Nat) (aK : Nat → Nat) (aV : Nat → Nat) (hf : sb_Fit f) (hn : n ≤ 160) (hc : n ≤ cap) (hc2 : cap ≤ 286) : Met l y_SB_toString ws_SB_toString ({ frames := 5, cells := 2, slots := 164, locals := 131 }) (va_Pc [.ref x] (fun U => U.heap.size = sz ∧ va_P (dC, dI) vwCl [(x, .inr (13, [.ref bv, .int 0, .int ml, .int (nI n)])), (bv, .inl (cB, cap, .inl f))] U.heap ∧ va_K (dC, dI) vwCl [(cB, .byte)] U ∧ va_D (fun _ => True) [(x, .inr (13, [.ref bv, .int 0, .int ml, .int (nI n)])), (bv, .inl (cB, cap, .inl f))] ∧ EX em aK aV (va_A [(x, .inr (13, [.ref bv, .int 0, .int ml, .int (nI n)])), (bv, .inl (cB, cap, .inl f))] sz) U U.heap)) (va_Qr (fun (u : Nat → Int32) => ∀ i, i < n → u i = f i) (fun u ra t => ∃ (bw : Nat), va_P (dC, dI) vwCl [(x, .inr (13, [.ref bv, .int 0, .int ml, .int (nI n)])), (bv, .inl (cB, cap, .inl f)), (ra, .inr (15, [.ref bw, .int 0, .int 0, .int 0])), (bw, .inl (cB, n, .inl u))] t.heap ∧ va_K (dC, dI) vwCl [(cB, .byte)] t ∧ va_D (va_A [(x, .inr (13, [.ref bv, .int 0, .int ml, .int (nI n)])), (bv, .inl (cB, cap, .inl f))] sz) [(x, .inr (13, [.ref bv, .int 0, .int ml, .int (nI n)])), (bv, .inl (cB, cap, .inl f)), (ra, .inr (15, [.ref bw, .int 0, .int 0, .int 0])), (bw, .inl (cB, n, .inl u))]) (va_A [(x, .inr (13, [.ref bv, .int 0, .int ml, .int (nI n)])), (bv, .inl (cB, cap, .inl f))] sz)) 2 164 (va_A [(x, .inr (13, [.ref bv, .int 0, .int ml, .int (nI n)])), (bv, .inl (cB, cap, .inl f))] sz) := by
  refine Met.ofW (cc := c_SB_toString) (maxL := 1) (ret := (some (.object "java/lang/String"))) (by decide) rfl ?_
  intro p e s m args below meth c s₁ B hml hv
  obtain ⟨rfl, hsz, hP, hK, hD0, hE⟩ := hv
  have hx := B.exec
  have hb := B.bytes
  have hr := B.returns
  have hts := atoms_spec (ws := ws_SB_toString) B.pre
  have htb := fun w (h : w ∈ TBL) => hts w (List.mem_cons_of_mem _ h)
  have hown : s.vm.findClass R_SB = some m.cls := findClass_of_methodNamed B.named
  have hlocks := B.notSynchronized
  subst hsz
  have hD := hD0.self (sz := s.heap.size)
  generalize hAe : va_A [(x, .inr (13, [.ref bv, .int 0, .int ml, .int (nI n)])), (bv, .inl (cB, cap, .inl f))] s.heap.size = A at hD hE ⊢
  have hA : ∀ q : Nat, s.heap.size ≤ q → A q := fun q h => by rw [← hAe]; exact Or.inr h
  have hS : va_S A s.heap s.heap [] := va_S.rf
  have hP : va_P (dC, dI) vwCl [(x, .inr (13, [.ref bv, .int 0, .int ml, .int (nI n)])), (bv, .inl (cB, cap, .inl f))] s.heap := hP
  have hl := lv_entry ([.ref x]) (n := 1) (Nat.le_of_ble_eq_true rfl)
  rw [lg_entry_eq]
  generalize (lg_sl ([.ref x]) ++ List.replicate (1 - (lg_sl ([.ref x])).length) Slot.unset).toArray = ls at hl ⊢
  have hl : lv_has ls 1 [(0, .ref x)] := hl
  refine va_new (ci := 15) (fs := [.null, .int 0, .int 0, .int 0]) (C := R_ST) (T := T_ST) (N := 4) hx hb htb in_ST ty_ST ty_ST_ok hown (htb _ m_257) (htb _ m_258) (htb _ m_4) hK hP hD hS hA rfl (fun j hj => by rcases (show j = 0 ∨ j = 1 ∨ j = 2 ∨ j = 3 by omega) with rfl | rfl | rfl | rfl <;> rfl) (Nat.le_of_ble_eq_true rfl) (Nat.le_of_ble_eq_true rfl) d_SB_toString_0 (fun y H hP hD hS => ?_)
  have hP : va_P (dC, dI) vwCl [(x, .inr (13, [.ref bv, .int 0, .int ml, .int (nI n)])), (bv, .inl (cB, cap, .inl f)), (y, .inr (15, [.null, .int 0, .int 0, .int 0]))] H := hP
  have hD : va_D A [(x, .inr (13, [.ref bv, .int 0, .int ml, .int (nI n)])), (bv, .inl (cB, cap, .inl f)), (y, .inr (15, [.null, .int 0, .int 0, .int 0]))] := hD
  refine W.widen (k := 1) (n := 4) (Nat.le_of_ble_eq_true rfl) (Nat.le_of_ble_eq_true rfl) ?_
  refine lv_dup hx hb d_SB_toString_3 rfl ?_
  refine lv_aload_n hx hb d_SB_toString_4 rfl (lv_at hl 0 rfl) ?_
  have hPc := hP.sub (ws' := [(y, .inr (15, [.null, .int 0, .int 0, .int 0])), (x, .inr (13, [.ref bv, .int 0, .int ml, .int (nI n)])), (bv, .inl (cB, cap, .inl f))]) [2, 0, 1] rfl
  have hDc := hD.sub (ws' := [(y, .inr (15, [.null, .int 0, .int 0, .int 0])), (x, .inr (13, [.ref bv, .int 0, .int ml, .int (nI n)])), (bv, .inl (cB, cap, .inl f))]) [2, 0, 1] (by decide) rfl
  have hFc := va_free (wc := [(y, .inr (15, [.null, .int 0, .int 0, .int 0])), (x, .inr (13, [.ref bv, .int 0, .int ml, .int (nI n)])), (bv, .inl (cB, cap, .inl f))]) hD hS hA [2, 0, 1] rfl
  have hKc := hK.sub (tys' := [(cB, .byte)]) [0] rfl
  refine va_callv (va_runI (As := [.ref x]) (rest := [.ref y]) ⟨hx, hb, hml, hown, htb⟩ (k_ST_init l dC dI _ y x bv ml n cB f cap em aK aV hf hn hc hc2) (cwI 1 htb (g_all (fun _ h => h) m_261) rfl rfl rfl (htb _ m_4) (htb _ m_259) (htb _ m_260) rfl (by decide +kernel) ⟨Nat.le_of_ble_eq_true rfl, Nat.le_of_ble_eq_true rfl⟩) ⟨fun a U g mk q => by obtain ⟨q0, q1, qP, qK, qD, z0⟩ := q; exact ⟨q0, q1, qP, va_K.moved (u := U) (U := U.calling g mk a) (Vm.Alike.refl U.vm) qK, qD, EX.same (U := U) (U' := U.calling g mk a) rfl z0⟩, fun U hU hW => ⟨rfl, by rw [hU], by rw [hU]; exact hPc, va_K.moved hW.alike hKc, hDc.weaken (fun _ _ _ _ => trivial), by rw [hU]; exact EX.warm hW ((hE.kept (fun a h1 h2 => hS.2.1 a h1 h2)).narrow hFc)⟩⟩ rfl rfl hl.1 rfl (lv_room (Nat.le_of_ble_eq_true rfl)) d_SB_toString_5 ⟨Nat.le_of_ble_eq_true rfl, Nat.le_of_ble_eq_true rfl⟩) hS (fun q _ h => hFc q h) hFc (fun u1 t H1 locs ht hvm hw3 hB hz1 hk1 hS => ?_)
  obtain ⟨x5, hP1, hK1, hD1⟩ := hB
  rw [ht] at hP1
  have hK1 := va_K.moved hvm.symm hK1
  have hw3 : ∀ i, i < n → u1 i = f i := hw3
  obtain ⟨hP, hD⟩ := va_join (wr := []) (w1 := [(y, .inr (15, [.ref x5, .int 0, .int 0, .int 0])), (x, .inr (13, [.ref bv, .int 0, .int ml, .int (nI n)])), (bv, .inl (cB, cap, .inl f)), (x5, .inl (cB, n, .inl u1))]) hP hD [2, 0, 1] [] rfl rfl (by decide) (by decide) hk1 hFc hP1 hD1
  have hK := (hK.sub (tys' := []) [] rfl).app hK1
  generalize H1 = H at hP hS ⊢
  have hP : va_P (dC, dI) vwCl [(y, .inr (15, [.ref x5, .int 0, .int 0, .int 0])), (x, .inr (13, [.ref bv, .int 0, .int ml, .int (nI n)])), (bv, .inl (cB, cap, .inl f)), (x5, .inl (cB, n, .inl u1))] H := hP
  have hD : va_D A [(y, .inr (15, [.ref x5, .int 0, .int 0, .int 0])), (x, .inr (13, [.ref bv, .int 0, .int ml, .int (nI n)])), (bv, .inl (cB, cap, .inl f)), (x5, .inl (cB, n, .inl u1))] := hD
  have hK : va_K (dC, dI) vwCl [(cB, .byte)] s := hK
  refine W.widen (k := 2) (n := 164) (Nat.le_of_ble_eq_true rfl) (Nat.le_of_ble_eq_true rfl) ?_
  have hP9 := hP.sub (ws' := [(x, .inr (13, [.ref bv, .int 0, .int ml, .int (nI n)])), (bv, .inl (cB, cap, .inl f)), (y, .inr (15, [.ref x5, .int 0, .int 0, .int 0])), (x5, .inl (cB, n, .inl u1))]) [1, 2, 0, 3] rfl
  have hD9 := hD.sub (ws' := [(x, .inr (13, [.ref bv, .int 0, .int ml, .int (nI n)])), (bv, .inl (cB, cap, .inl f)), (y, .inr (15, [.ref x5, .int 0, .int 0, .int 0])), (x5, .inl (cB, n, .inl u1))]) [1, 2, 0, 3] (by decide) rfl
  have hK9 := hK.sub (tys' := [(cB, .byte)]) [0] rfl
  refine W.widen (k := 2) (n := 164) (Nat.le_of_ble_eq_true rfl) (Nat.le_of_ble_eq_true rfl) ?_
  exact W.aret (v := .ref y) hx hb hr (Or.inl ⟨_, rfl⟩) (Or.inr ⟨_, rfl⟩) (fun t ht hW => ⟨⟨u1, y, rfl, hw3, ⟨x5, by rw [ht]; exact hP9, va_K.moved hW.alike hK9, hD9⟩⟩, hS.F ht⟩) hS.2.2 d_SB_toString_8
