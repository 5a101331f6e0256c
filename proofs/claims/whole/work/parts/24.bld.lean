/-- the builder holds the text t -/
def Bld (tx : List Nat) (cap : Nat) (f : Nat → Int32) : Prop := (cap = 16 ∨ cap = 34 ∨ cap = 70 ∨ cap = 142 ∨ cap = 286) ∧ tx.length ≤ cap ∧ (∀ i, i < tx.length → f i = sb_b (tx.getD i 0)) ∧ sb_Fit f ∧ (∀ c ∈ tx, c < 128)
theorem Bld.cap {tx : List Nat} {cap : Nat} {f : Nat → Int32} (h : Bld tx cap f) : cap ≤ 286 := by
  rcases h.1 with h | h | h | h | h <;> omega
theorem sb_fit_upd {f : Nat → Int32} (hf : sb_Fit f) (n ch : Nat) : sb_Fit (upd f n (sb_b ch)) := by
  intro i
  by_cases hi : i = n
  · subst hi
    simp only [upd, if_true]
    exact sb_fitB ch
  · simp only [upd, if_neg hi]
    exact hf i
theorem sb_fit_cpy {f : Nat → Int32} (hf : sb_Fit f) (n : Nat) : sb_Fit (va_cpy f (fun _ => 0) 0 0 n) := by
  intro i
  by_cases hi : i < n
  · simpa [va_cpy, hi] using hf i
  · simpa [va_cpy, hi] using (by decide : fits .byte (.int 0) = true)
theorem bld_app {tx : List Nat} {cap : Nat} {f g : Nat → Int32} {ch : Nat} (h : Bld tx cap f) (hg : ∀ i, i < tx.length → g i = f i) (hG : sb_Fit g) (hch : ch < 128) {c2 : Nat} (hc : c2 = 16 ∨ c2 = 34 ∨ c2 = 70 ∨ c2 = 142 ∨ c2 = 286) (hl : tx.length < c2) : Bld (tx ++ [ch]) c2 (upd g tx.length (sb_b ch)) := by
  refine ⟨hc, by simp; omega, fun i hi => ?_, sb_fit_upd hG _ _, fun c hm => ?_⟩
  · simp only [List.length_append, List.length_singleton] at hi
    by_cases hi2 : i = tx.length
    · subst hi2
      simp [upd, List.getD_eq_getElem?_getD]
    · have hi3 : i < tx.length := by omega
      simp only [upd, if_neg hi2]
      rw [hg i hi3, h.2.2.1 i hi3]
      simp [List.getD_eq_getElem?_getD, List.getElem?_append_left hi3]
  · rcases List.mem_append.mp hm with hm | hm
    · exact h.2.2.2.2 c hm
    · rw [List.mem_singleton] at hm; omega
theorem bld_grow {tx : List Nat} {cap n : Nat} {f : Nat → Int32} {ch : Nat} (h : Bld tx cap f) (hn : tx.length = n) (hch : ch < 128) {c2 : Nat} (hc : c2 = 16 ∨ c2 = 34 ∨ c2 = 70 ∨ c2 = 142 ∨ c2 = 286) (hl : n < c2) : Bld (tx ++ [ch]) c2 (upd (va_cpy f (fun _ => 0) 0 0 n) n (sb_b ch)) := by
  subst hn
  exact bld_app h (fun i hi => by simp [va_cpy, hi]) (sb_fit_cpy h.2.2.2.1 _) hch hc hl
theorem bld_nil {tx : List Nat} {cap : Nat} {f : Nat → Int32} (h : Bld tx cap f) : Bld [] cap f := ⟨h.1, Nat.zero_le _, fun i hi => absurd hi (Nat.not_lt_zero _), h.2.2.2.1, fun c hc => absurd hc List.not_mem_nil⟩
set_option maxHeartbeats 1000000 in
set_option maxRecDepth 100000 in
/-- append(c) -/
theorem k_SB_append (l : Launch) (dC : Nat → ClassId) (dI : Nat → Nat → Nat) (sz : Nat) (x : Nat) (bv : Nat) (ml : Int32) (cB : ClassId) (f : Nat → Int32) (cap : Nat) (tx : List Nat) (ch : Nat) (em : Nat) (aK : Nat → Nat) (aV : Nat → Nat) (hB : Bld tx cap f) (hch : ch < 128) (ht : tx.length < 160) : Met l y_SB_append ws_SB_append ({ frames := 5, cells := 1, slots := 286, locals := 105 }) (va_Pc [.ref x, .int (nI ch)] (fun U => U.heap.size = sz ∧ va_P (dC, dI) vwCl [(x, .inr (13, [.ref bv, .int 0, .int ml, .int (nI tx.length)])), (bv, .inl (cB, cap, .inl f))] U.heap ∧ va_K (dC, dI) vwCl [(cB, .byte)] U ∧ va_D (fun _ => True) [(x, .inr (13, [.ref bv, .int 0, .int ml, .int (nI tx.length)])), (bv, .inl (cB, cap, .inl f))] ∧ EX em aK aV (va_A [(x, .inr (13, [.ref bv, .int 0, .int ml, .int (nI tx.length)])), (bv, .inl (cB, cap, .inl f))] sz) U U.heap)) (va_Qr (fun (u : Nat × (Nat → Int32)) => Bld (tx ++ [ch]) u.1 u.2) (fun u ra t => ∃ (bw : Nat), va_P (dC, dI) vwCl [(x, .inr (13, [.ref bw, .int 0, .int ml, .int (nI (tx ++ [ch]).length)])), (bw, .inl (cB, u.1, .inl u.2))] t.heap ∧ va_K (dC, dI) vwCl [(cB, .byte)] t ∧ va_D (va_A [(x, .inr (13, [.ref bv, .int 0, .int ml, .int (nI tx.length)])), (bv, .inl (cB, cap, .inl f))] sz) [(x, .inr (13, [.ref bw, .int 0, .int ml, .int (nI (tx ++ [ch]).length)])), (bw, .inl (cB, u.1, .inl u.2))]) (va_A [(x, .inr (13, [.ref bv, .int 0, .int ml, .int (nI tx.length)])), (bv, .inl (cB, cap, .inl f))] sz)) 1 286 (va_A [(x, .inr (13, [.ref bv, .int 0, .int ml, .int (nI tx.length)])), (bv, .inl (cB, cap, .inl f))] sz) := by
  refine Met.ofW (cc := c_SB_append) (maxL := 2) (ret := (some (.object "java/lang/StringBuilder"))) (by decide) rfl ?_
  intro p e s m args below meth c s₁ B hml hv
  obtain ⟨rfl, hsz, hP, hK, hD0, hE⟩ := hv
  have hx := B.exec
  have hb := B.bytes
  have hr := B.returns
  have hts := atoms_spec (ws := ws_SB_append) B.pre
  have htb := fun w (h : w ∈ TBL) => hts w (List.mem_cons_of_mem _ h)
  have hown : s.vm.findClass R_SB = some m.cls := findClass_of_methodNamed B.named
  have hlocks := B.notSynchronized
  subst hsz
  have hD := hD0.self (sz := s.heap.size)
  generalize hAe : va_A [(x, .inr (13, [.ref bv, .int 0, .int ml, .int (nI tx.length)])), (bv, .inl (cB, cap, .inl f))] s.heap.size = A at hD hE ⊢
  have hA : ∀ q : Nat, s.heap.size ≤ q → A q := fun q h => by rw [← hAe]; exact Or.inr h
  have hS : va_S A s.heap s.heap [] := va_S.rf
  have hP : va_P (dC, dI) vwCl [(x, .inr (13, [.ref bv, .int 0, .int ml, .int (nI tx.length)])), (bv, .inl (cB, cap, .inl f))] s.heap := hP
  have hl := lv_entry ([.ref x, .int (nI ch)]) (n := 2) (Nat.le_of_ble_eq_true rfl)
  rw [lg_entry_eq]
  generalize (lg_sl ([.ref x, .int (nI ch)]) ++ List.replicate (2 - (lg_sl ([.ref x, .int (nI ch)])).length) Slot.unset).toArray = ls at hl ⊢
  have hl : lv_has ls 2 [(0, .ref x), (1, .int (nI ch))] := hl
  refine lv_aload_n hx hb d_SB_append_0 rfl (lv_at hl 0 rfl) ?_
  refine lv_iload_n hx hb d_SB_append_1 rfl (lv_at hl 1 rfl) ?_
  have hle := hB.2.1
  rcases (show tx.length < cap ∨ (cap = 16 ∧ tx.length = 16) ∨ (cap = 34 ∧ tx.length = 34) ∨ (cap = 70 ∧ tx.length = 70) ∨ (cap = 142 ∧ tx.length = 142) by rcases hB.1 with h | h | h | h | h <;> omega) with hlt | ⟨hcp, hln⟩ | ⟨hcp, hln⟩ | ⟨hcp, hln⟩ | ⟨hcp, hln⟩
  · have hPc := hP.sub (ws' := [(x, .inr (13, [.ref bv, .int 0, .int ml, .int (nI tx.length)])), (bv, .inl (cB, cap, .inl f))]) [0, 1] rfl
    have hDc := hD.sub (ws' := [(x, .inr (13, [.ref bv, .int 0, .int ml, .int (nI tx.length)])), (bv, .inl (cB, cap, .inl f))]) [0, 1] (by decide) rfl
    have hFc := va_free (wc := [(x, .inr (13, [.ref bv, .int 0, .int ml, .int (nI tx.length)])), (bv, .inl (cB, cap, .inl f))]) hD hS hA [0, 1] rfl
    have hKc := hK.sub (tys' := [(cB, .byte)]) [0] rfl
    refine va_callr (va_runSU (As := [.int (nI ch)]) (rest := []) (hK.1 13 _ rfl).2 ⟨hx, hb, hml, hown, htb⟩ (k_AB_append_fit l dC dI _ x bv ml tx.length cB f cap ch em aK aV hlt hB.cap hch) (va_cwSU 1 htb (g_SU (fun _ h => h) m_340 m_338 m_1602 m_68 m_339 m_2) rfl rfl rfl (by decide +kernel) ⟨Nat.le_of_ble_eq_true rfl, Nat.le_of_ble_eq_true rfl⟩) ⟨fun a U g mk q => by obtain ⟨q0, q1, qP, qK, qD, z0⟩ := q; exact ⟨q0, q1, qP, va_K.moved (u := U) (U := U.calling g mk a) (Vm.Alike.refl U.vm) qK, qD, EX.same (U := U) (U' := U.calling g mk a) rfl z0⟩, va_recv hK hP (ci := 13) rfl (q0 := 0) rfl, fun U hU hW => ⟨rfl, by rw [hU], by rw [hU]; exact hPc, va_K.moved hW.alike hKc, hDc.weaken (fun _ _ _ _ => trivial), by rw [hU]; exact EX.warm hW ((hE.kept (fun a h1 h2 => hS.2.1 a h1 h2)).narrow hFc)⟩⟩ rfl rfl hl.1 rfl (lv_room (Nat.le_of_ble_eq_true rfl)) d_SB_append_2 ⟨Nat.le_of_ble_eq_true rfl, Nat.le_of_ble_eq_true rfl⟩) hS (fun q _ h => hFc q h) hFc (fun u1 ra4 t H1 locs ht hvm hw3 hB hz1 hk1 hS => ?_)
    obtain ⟨hP1, hK1, hD1⟩ := hB
    rw [ht] at hP1
    have hK1 := va_K.moved hvm.symm hK1
    have hw3 : True := hw3
    obtain ⟨hP, hD⟩ := va_join (wr := []) (w1 := [(x, .inr (13, [.ref bv, .int 0, .int ml, .int (nI (tx.length + 1))])), (bv, .inl (cB, cap, .inl (upd f tx.length (sb_b ch))))]) hP hD [0, 1] [] rfl rfl (by decide) (by decide) hk1 hFc hP1 hD1
    have hK := (hK.sub (tys' := []) [] rfl).app hK1
    generalize H1 = H at hP hS ⊢
    have hP : va_P (dC, dI) vwCl [(x, .inr (13, [.ref bv, .int 0, .int ml, .int (nI (tx.length + 1))])), (bv, .inl (cB, cap, .inl (upd f tx.length (sb_b ch))))] H := hP
    have hD : va_D A [(x, .inr (13, [.ref bv, .int 0, .int ml, .int (nI (tx.length + 1))])), (bv, .inl (cB, cap, .inl (upd f tx.length (sb_b ch))))] := hD
    have hK : va_K (dC, dI) vwCl [(cB, .byte)] s := hK
    refine lv_pop hx hb d_SB_append_5 rfl ?_
    refine lv_aload_n hx hb d_SB_append_6 rfl (lv_at hl 0 rfl) ?_
    rw [show tx.length + 1 = (tx ++ [ch]).length by simp] at hP hD
    have hP : va_P (dC, dI) vwCl [(x, .inr (13, [.ref bv, .int 0, .int ml, .int (nI (tx ++ [ch]).length)])), (bv, .inl (cB, cap, .inl (upd f tx.length (sb_b ch))))] H := hP
    have hD : va_D A [(x, .inr (13, [.ref bv, .int 0, .int ml, .int (nI (tx ++ [ch]).length)])), (bv, .inl (cB, cap, .inl (upd f tx.length (sb_b ch))))] := hD
    have hP9 := hP.sub (ws' := [(x, .inr (13, [.ref bv, .int 0, .int ml, .int (nI (tx ++ [ch]).length)])), (bv, .inl (cB, cap, .inl (upd f tx.length (sb_b ch))))]) [0, 1] rfl
    have hD9 := hD.sub (ws' := [(x, .inr (13, [.ref bv, .int 0, .int ml, .int (nI (tx ++ [ch]).length)])), (bv, .inl (cB, cap, .inl (upd f tx.length (sb_b ch))))]) [0, 1] (by decide) rfl
    have hK9 := hK.sub (tys' := [(cB, .byte)]) [0] rfl
    refine W.widen (k := 1) (n := 286) (Nat.le_of_ble_eq_true rfl) (Nat.le_of_ble_eq_true rfl) ?_
    exact W.aret (v := .ref x) hx hb hr (Or.inl ⟨_, rfl⟩) (Or.inr ⟨_, rfl⟩) (fun t ht hW => ⟨⟨(cap, (upd f tx.length (sb_b ch))), x, rfl, bld_app hB (fun _ _ => rfl) hB.2.2.2.1 hch hB.1 hlt, ⟨bv, by rw [ht]; exact hP9, va_K.moved hW.alike hK9, hD9⟩⟩, hS.F ht⟩) hS.2.2 d_SB_append_7
  · subst hcp
    rw [hln] at hP hD
    have hP : va_P (dC, dI) vwCl [(x, .inr (13, [.ref bv, .int 0, .int ml, .int 16])), (bv, .inl (cB, 16, .inl f))] _ := hP
    have hD : va_D A [(x, .inr (13, [.ref bv, .int 0, .int ml, .int 16])), (bv, .inl (cB, 16, .inl f))] := hD
    have hPc := hP.sub (ws' := [(x, .inr (13, [.ref bv, .int 0, .int ml, .int 16])), (bv, .inl (cB, 16, .inl f))]) [0, 1] rfl
    have hDc := hD.sub (ws' := [(x, .inr (13, [.ref bv, .int 0, .int ml, .int 16])), (bv, .inl (cB, 16, .inl f))]) [0, 1] (by decide) rfl
    have hFc := va_free (wc := [(x, .inr (13, [.ref bv, .int 0, .int ml, .int 16])), (bv, .inl (cB, 16, .inl f))]) hD hS hA [0, 1] rfl
    have hKc := hK.sub (tys' := [(cB, .byte)]) [0] rfl
    refine va_callr (va_runSU (As := [.int (nI ch)]) (rest := []) (hK.1 13 _ rfl).2 ⟨hx, hb, hml, hown, htb⟩ (k_AB_append_grow_16 l dC dI _ x bv ml cB f ch em aK aV hB.2.2.2.1 hch) (va_cwSU 1 htb (g_SU (fun _ h => h) m_340 m_338 m_1602 m_68 m_339 m_2) rfl rfl rfl (by decide +kernel) ⟨Nat.le_of_ble_eq_true rfl, Nat.le_of_ble_eq_true rfl⟩) ⟨fun a U g mk q => by obtain ⟨q0, q1, qP, qK, qD, z0⟩ := q; exact ⟨q0, q1, qP, va_K.moved (u := U) (U := U.calling g mk a) (Vm.Alike.refl U.vm) qK, qD, EX.same (U := U) (U' := U.calling g mk a) rfl z0⟩, va_recv hK hP (ci := 13) rfl (q0 := 0) rfl, fun U hU hW => ⟨rfl, by rw [hU], by rw [hU]; exact hPc, va_K.moved hW.alike hKc, hDc.weaken (fun _ _ _ _ => trivial), by rw [hU]; exact EX.warm hW ((hE.kept (fun a h1 h2 => hS.2.1 a h1 h2)).narrow hFc)⟩⟩ rfl rfl hl.1 rfl (lv_room (Nat.le_of_ble_eq_true rfl)) d_SB_append_2 ⟨Nat.le_of_ble_eq_true rfl, Nat.le_of_ble_eq_true rfl⟩) hS (fun q _ h => hFc q h) hFc (fun u1 ra4 t H1 locs ht hvm hw3 hB hz1 hk1 hS => ?_)
    obtain ⟨x5, hP1, hK1, hD1⟩ := hB
    rw [ht] at hP1
    have hK1 := va_K.moved hvm.symm hK1
    have hw3 : True := hw3
    obtain ⟨hP, hD⟩ := va_join (wr := []) (w1 := [(x, .inr (13, [.ref x5, .int 0, .int ml, .int 17])), (x5, .inl (cB, 34, .inl (upd (va_cpy f (fun _ => 0) 0 0 16) 16 (sb_b ch))))]) hP hD [0, 1] [] rfl rfl (by decide) (by decide) hk1 hFc hP1 hD1
    have hK := (hK.sub (tys' := []) [] rfl).app hK1
    generalize H1 = H at hP hS ⊢
    have hP : va_P (dC, dI) vwCl [(x, .inr (13, [.ref x5, .int 0, .int ml, .int 17])), (x5, .inl (cB, 34, .inl (upd (va_cpy f (fun _ => 0) 0 0 16) 16 (sb_b ch))))] H := hP
    have hD : va_D A [(x, .inr (13, [.ref x5, .int 0, .int ml, .int 17])), (x5, .inl (cB, 34, .inl (upd (va_cpy f (fun _ => 0) 0 0 16) 16 (sb_b ch))))] := hD
    have hK : va_K (dC, dI) vwCl [(cB, .byte)] s := hK
    refine W.widen (k := 1) (n := 34) (Nat.le_of_ble_eq_true rfl) (Nat.le_of_ble_eq_true rfl) ?_
    refine lv_pop hx hb d_SB_append_5 rfl ?_
    refine lv_aload_n hx hb d_SB_append_6 rfl (lv_at hl 0 rfl) ?_
    have hln2 : (tx ++ [ch]).length = 17 := by simp [hln]
    have hP : va_P (dC, dI) vwCl [(x, .inr (13, [.ref x5, .int 0, .int ml, .int (nI (tx ++ [ch]).length)])), (x5, .inl (cB, 34, .inl (upd (va_cpy f (fun _ => 0) 0 0 16) 16 (sb_b ch))))] H := by rw [hln2]; exact hP
    have hD : va_D A [(x, .inr (13, [.ref x5, .int 0, .int ml, .int (nI (tx ++ [ch]).length)])), (x5, .inl (cB, 34, .inl (upd (va_cpy f (fun _ => 0) 0 0 16) 16 (sb_b ch))))] := by rw [hln2]; exact hD
    have hP9 := hP.sub (ws' := [(x, .inr (13, [.ref x5, .int 0, .int ml, .int (nI (tx ++ [ch]).length)])), (x5, .inl (cB, 34, .inl (upd (va_cpy f (fun _ => 0) 0 0 16) 16 (sb_b ch))))]) [0, 1] rfl
    have hD9 := hD.sub (ws' := [(x, .inr (13, [.ref x5, .int 0, .int ml, .int (nI (tx ++ [ch]).length)])), (x5, .inl (cB, 34, .inl (upd (va_cpy f (fun _ => 0) 0 0 16) 16 (sb_b ch))))]) [0, 1] (by decide) rfl
    have hK9 := hK.sub (tys' := [(cB, .byte)]) [0] rfl
    refine W.widen (k := 1) (n := 286) (Nat.le_of_ble_eq_true rfl) (Nat.le_of_ble_eq_true rfl) ?_
    exact W.aret (v := .ref x) hx hb hr (Or.inl ⟨_, rfl⟩) (Or.inr ⟨_, rfl⟩) (fun t ht hW => ⟨⟨(34, (upd (va_cpy f (fun _ => 0) 0 0 16) 16 (sb_b ch))), x, rfl, bld_grow hB hln hch (c2 := 34) (by decide) (by decide), ⟨x5, by rw [ht]; exact hP9, va_K.moved hW.alike hK9, hD9⟩⟩, hS.F ht⟩) hS.2.2 d_SB_append_7
  · subst hcp
    rw [hln] at hP hD
    have hP : va_P (dC, dI) vwCl [(x, .inr (13, [.ref bv, .int 0, .int ml, .int 34])), (bv, .inl (cB, 34, .inl f))] _ := hP
    have hD : va_D A [(x, .inr (13, [.ref bv, .int 0, .int ml, .int 34])), (bv, .inl (cB, 34, .inl f))] := hD
    have hPc := hP.sub (ws' := [(x, .inr (13, [.ref bv, .int 0, .int ml, .int 34])), (bv, .inl (cB, 34, .inl f))]) [0, 1] rfl
    have hDc := hD.sub (ws' := [(x, .inr (13, [.ref bv, .int 0, .int ml, .int 34])), (bv, .inl (cB, 34, .inl f))]) [0, 1] (by decide) rfl
    have hFc := va_free (wc := [(x, .inr (13, [.ref bv, .int 0, .int ml, .int 34])), (bv, .inl (cB, 34, .inl f))]) hD hS hA [0, 1] rfl
    have hKc := hK.sub (tys' := [(cB, .byte)]) [0] rfl
    refine va_callr (va_runSU (As := [.int (nI ch)]) (rest := []) (hK.1 13 _ rfl).2 ⟨hx, hb, hml, hown, htb⟩ (k_AB_append_grow_34 l dC dI _ x bv ml cB f ch em aK aV hB.2.2.2.1 hch) (va_cwSU 1 htb (g_SU (fun _ h => h) m_340 m_338 m_1602 m_68 m_339 m_2) rfl rfl rfl (by decide +kernel) ⟨Nat.le_of_ble_eq_true rfl, Nat.le_of_ble_eq_true rfl⟩) ⟨fun a U g mk q => by obtain ⟨q0, q1, qP, qK, qD, z0⟩ := q; exact ⟨q0, q1, qP, va_K.moved (u := U) (U := U.calling g mk a) (Vm.Alike.refl U.vm) qK, qD, EX.same (U := U) (U' := U.calling g mk a) rfl z0⟩, va_recv hK hP (ci := 13) rfl (q0 := 0) rfl, fun U hU hW => ⟨rfl, by rw [hU], by rw [hU]; exact hPc, va_K.moved hW.alike hKc, hDc.weaken (fun _ _ _ _ => trivial), by rw [hU]; exact EX.warm hW ((hE.kept (fun a h1 h2 => hS.2.1 a h1 h2)).narrow hFc)⟩⟩ rfl rfl hl.1 rfl (lv_room (Nat.le_of_ble_eq_true rfl)) d_SB_append_2 ⟨Nat.le_of_ble_eq_true rfl, Nat.le_of_ble_eq_true rfl⟩) hS (fun q _ h => hFc q h) hFc (fun u1 ra4 t H1 locs ht hvm hw3 hB hz1 hk1 hS => ?_)
    obtain ⟨x5, hP1, hK1, hD1⟩ := hB
    rw [ht] at hP1
    have hK1 := va_K.moved hvm.symm hK1
    have hw3 : True := hw3
    obtain ⟨hP, hD⟩ := va_join (wr := []) (w1 := [(x, .inr (13, [.ref x5, .int 0, .int ml, .int 35])), (x5, .inl (cB, 70, .inl (upd (va_cpy f (fun _ => 0) 0 0 34) 34 (sb_b ch))))]) hP hD [0, 1] [] rfl rfl (by decide) (by decide) hk1 hFc hP1 hD1
    have hK := (hK.sub (tys' := []) [] rfl).app hK1
    generalize H1 = H at hP hS ⊢
    have hP : va_P (dC, dI) vwCl [(x, .inr (13, [.ref x5, .int 0, .int ml, .int 35])), (x5, .inl (cB, 70, .inl (upd (va_cpy f (fun _ => 0) 0 0 34) 34 (sb_b ch))))] H := hP
    have hD : va_D A [(x, .inr (13, [.ref x5, .int 0, .int ml, .int 35])), (x5, .inl (cB, 70, .inl (upd (va_cpy f (fun _ => 0) 0 0 34) 34 (sb_b ch))))] := hD
    have hK : va_K (dC, dI) vwCl [(cB, .byte)] s := hK
    refine W.widen (k := 1) (n := 70) (Nat.le_of_ble_eq_true rfl) (Nat.le_of_ble_eq_true rfl) ?_
    refine lv_pop hx hb d_SB_append_5 rfl ?_
    refine lv_aload_n hx hb d_SB_append_6 rfl (lv_at hl 0 rfl) ?_
    have hln2 : (tx ++ [ch]).length = 35 := by simp [hln]
    have hP : va_P (dC, dI) vwCl [(x, .inr (13, [.ref x5, .int 0, .int ml, .int (nI (tx ++ [ch]).length)])), (x5, .inl (cB, 70, .inl (upd (va_cpy f (fun _ => 0) 0 0 34) 34 (sb_b ch))))] H := by rw [hln2]; exact hP
    have hD : va_D A [(x, .inr (13, [.ref x5, .int 0, .int ml, .int (nI (tx ++ [ch]).length)])), (x5, .inl (cB, 70, .inl (upd (va_cpy f (fun _ => 0) 0 0 34) 34 (sb_b ch))))] := by rw [hln2]; exact hD
    have hP9 := hP.sub (ws' := [(x, .inr (13, [.ref x5, .int 0, .int ml, .int (nI (tx ++ [ch]).length)])), (x5, .inl (cB, 70, .inl (upd (va_cpy f (fun _ => 0) 0 0 34) 34 (sb_b ch))))]) [0, 1] rfl
    have hD9 := hD.sub (ws' := [(x, .inr (13, [.ref x5, .int 0, .int ml, .int (nI (tx ++ [ch]).length)])), (x5, .inl (cB, 70, .inl (upd (va_cpy f (fun _ => 0) 0 0 34) 34 (sb_b ch))))]) [0, 1] (by decide) rfl
    have hK9 := hK.sub (tys' := [(cB, .byte)]) [0] rfl
    refine W.widen (k := 1) (n := 286) (Nat.le_of_ble_eq_true rfl) (Nat.le_of_ble_eq_true rfl) ?_
    exact W.aret (v := .ref x) hx hb hr (Or.inl ⟨_, rfl⟩) (Or.inr ⟨_, rfl⟩) (fun t ht hW => ⟨⟨(70, (upd (va_cpy f (fun _ => 0) 0 0 34) 34 (sb_b ch))), x, rfl, bld_grow hB hln hch (c2 := 70) (by decide) (by decide), ⟨x5, by rw [ht]; exact hP9, va_K.moved hW.alike hK9, hD9⟩⟩, hS.F ht⟩) hS.2.2 d_SB_append_7
  · subst hcp
    rw [hln] at hP hD
    have hP : va_P (dC, dI) vwCl [(x, .inr (13, [.ref bv, .int 0, .int ml, .int 70])), (bv, .inl (cB, 70, .inl f))] _ := hP
    have hD : va_D A [(x, .inr (13, [.ref bv, .int 0, .int ml, .int 70])), (bv, .inl (cB, 70, .inl f))] := hD
    have hPc := hP.sub (ws' := [(x, .inr (13, [.ref bv, .int 0, .int ml, .int 70])), (bv, .inl (cB, 70, .inl f))]) [0, 1] rfl
    have hDc := hD.sub (ws' := [(x, .inr (13, [.ref bv, .int 0, .int ml, .int 70])), (bv, .inl (cB, 70, .inl f))]) [0, 1] (by decide) rfl
    have hFc := va_free (wc := [(x, .inr (13, [.ref bv, .int 0, .int ml, .int 70])), (bv, .inl (cB, 70, .inl f))]) hD hS hA [0, 1] rfl
    have hKc := hK.sub (tys' := [(cB, .byte)]) [0] rfl
    refine va_callr (va_runSU (As := [.int (nI ch)]) (rest := []) (hK.1 13 _ rfl).2 ⟨hx, hb, hml, hown, htb⟩ (k_AB_append_grow_70 l dC dI _ x bv ml cB f ch em aK aV hB.2.2.2.1 hch) (va_cwSU 1 htb (g_SU (fun _ h => h) m_340 m_338 m_1602 m_68 m_339 m_2) rfl rfl rfl (by decide +kernel) ⟨Nat.le_of_ble_eq_true rfl, Nat.le_of_ble_eq_true rfl⟩) ⟨fun a U g mk q => by obtain ⟨q0, q1, qP, qK, qD, z0⟩ := q; exact ⟨q0, q1, qP, va_K.moved (u := U) (U := U.calling g mk a) (Vm.Alike.refl U.vm) qK, qD, EX.same (U := U) (U' := U.calling g mk a) rfl z0⟩, va_recv hK hP (ci := 13) rfl (q0 := 0) rfl, fun U hU hW => ⟨rfl, by rw [hU], by rw [hU]; exact hPc, va_K.moved hW.alike hKc, hDc.weaken (fun _ _ _ _ => trivial), by rw [hU]; exact EX.warm hW ((hE.kept (fun a h1 h2 => hS.2.1 a h1 h2)).narrow hFc)⟩⟩ rfl rfl hl.1 rfl (lv_room (Nat.le_of_ble_eq_true rfl)) d_SB_append_2 ⟨Nat.le_of_ble_eq_true rfl, Nat.le_of_ble_eq_true rfl⟩) hS (fun q _ h => hFc q h) hFc (fun u1 ra4 t H1 locs ht hvm hw3 hB hz1 hk1 hS => ?_)
    obtain ⟨x5, hP1, hK1, hD1⟩ := hB
    rw [ht] at hP1
    have hK1 := va_K.moved hvm.symm hK1
    have hw3 : True := hw3
    obtain ⟨hP, hD⟩ := va_join (wr := []) (w1 := [(x, .inr (13, [.ref x5, .int 0, .int ml, .int 71])), (x5, .inl (cB, 142, .inl (upd (va_cpy f (fun _ => 0) 0 0 70) 70 (sb_b ch))))]) hP hD [0, 1] [] rfl rfl (by decide) (by decide) hk1 hFc hP1 hD1
    have hK := (hK.sub (tys' := []) [] rfl).app hK1
    generalize H1 = H at hP hS ⊢
    have hP : va_P (dC, dI) vwCl [(x, .inr (13, [.ref x5, .int 0, .int ml, .int 71])), (x5, .inl (cB, 142, .inl (upd (va_cpy f (fun _ => 0) 0 0 70) 70 (sb_b ch))))] H := hP
    have hD : va_D A [(x, .inr (13, [.ref x5, .int 0, .int ml, .int 71])), (x5, .inl (cB, 142, .inl (upd (va_cpy f (fun _ => 0) 0 0 70) 70 (sb_b ch))))] := hD
    have hK : va_K (dC, dI) vwCl [(cB, .byte)] s := hK
    refine W.widen (k := 1) (n := 142) (Nat.le_of_ble_eq_true rfl) (Nat.le_of_ble_eq_true rfl) ?_
    refine lv_pop hx hb d_SB_append_5 rfl ?_
    refine lv_aload_n hx hb d_SB_append_6 rfl (lv_at hl 0 rfl) ?_
    have hln2 : (tx ++ [ch]).length = 71 := by simp [hln]
    have hP : va_P (dC, dI) vwCl [(x, .inr (13, [.ref x5, .int 0, .int ml, .int (nI (tx ++ [ch]).length)])), (x5, .inl (cB, 142, .inl (upd (va_cpy f (fun _ => 0) 0 0 70) 70 (sb_b ch))))] H := by rw [hln2]; exact hP
    have hD : va_D A [(x, .inr (13, [.ref x5, .int 0, .int ml, .int (nI (tx ++ [ch]).length)])), (x5, .inl (cB, 142, .inl (upd (va_cpy f (fun _ => 0) 0 0 70) 70 (sb_b ch))))] := by rw [hln2]; exact hD
    have hP9 := hP.sub (ws' := [(x, .inr (13, [.ref x5, .int 0, .int ml, .int (nI (tx ++ [ch]).length)])), (x5, .inl (cB, 142, .inl (upd (va_cpy f (fun _ => 0) 0 0 70) 70 (sb_b ch))))]) [0, 1] rfl
    have hD9 := hD.sub (ws' := [(x, .inr (13, [.ref x5, .int 0, .int ml, .int (nI (tx ++ [ch]).length)])), (x5, .inl (cB, 142, .inl (upd (va_cpy f (fun _ => 0) 0 0 70) 70 (sb_b ch))))]) [0, 1] (by decide) rfl
    have hK9 := hK.sub (tys' := [(cB, .byte)]) [0] rfl
    refine W.widen (k := 1) (n := 286) (Nat.le_of_ble_eq_true rfl) (Nat.le_of_ble_eq_true rfl) ?_
    exact W.aret (v := .ref x) hx hb hr (Or.inl ⟨_, rfl⟩) (Or.inr ⟨_, rfl⟩) (fun t ht hW => ⟨⟨(142, (upd (va_cpy f (fun _ => 0) 0 0 70) 70 (sb_b ch))), x, rfl, bld_grow hB hln hch (c2 := 142) (by decide) (by decide), ⟨x5, by rw [ht]; exact hP9, va_K.moved hW.alike hK9, hD9⟩⟩, hS.F ht⟩) hS.2.2 d_SB_append_7
  · subst hcp
    rw [hln] at hP hD
    have hP : va_P (dC, dI) vwCl [(x, .inr (13, [.ref bv, .int 0, .int ml, .int 142])), (bv, .inl (cB, 142, .inl f))] _ := hP
    have hD : va_D A [(x, .inr (13, [.ref bv, .int 0, .int ml, .int 142])), (bv, .inl (cB, 142, .inl f))] := hD
    have hPc := hP.sub (ws' := [(x, .inr (13, [.ref bv, .int 0, .int ml, .int 142])), (bv, .inl (cB, 142, .inl f))]) [0, 1] rfl
    have hDc := hD.sub (ws' := [(x, .inr (13, [.ref bv, .int 0, .int ml, .int 142])), (bv, .inl (cB, 142, .inl f))]) [0, 1] (by decide) rfl
    have hFc := va_free (wc := [(x, .inr (13, [.ref bv, .int 0, .int ml, .int 142])), (bv, .inl (cB, 142, .inl f))]) hD hS hA [0, 1] rfl
    have hKc := hK.sub (tys' := [(cB, .byte)]) [0] rfl
    refine va_callr (va_runSU (As := [.int (nI ch)]) (rest := []) (hK.1 13 _ rfl).2 ⟨hx, hb, hml, hown, htb⟩ (k_AB_append_grow_142 l dC dI _ x bv ml cB f ch em aK aV hB.2.2.2.1 hch) (va_cwSU 1 htb (g_SU (fun _ h => h) m_340 m_338 m_1602 m_68 m_339 m_2) rfl rfl rfl (by decide +kernel) ⟨Nat.le_of_ble_eq_true rfl, Nat.le_of_ble_eq_true rfl⟩) ⟨fun a U g mk q => by obtain ⟨q0, q1, qP, qK, qD, z0⟩ := q; exact ⟨q0, q1, qP, va_K.moved (u := U) (U := U.calling g mk a) (Vm.Alike.refl U.vm) qK, qD, EX.same (U := U) (U' := U.calling g mk a) rfl z0⟩, va_recv hK hP (ci := 13) rfl (q0 := 0) rfl, fun U hU hW => ⟨rfl, by rw [hU], by rw [hU]; exact hPc, va_K.moved hW.alike hKc, hDc.weaken (fun _ _ _ _ => trivial), by rw [hU]; exact EX.warm hW ((hE.kept (fun a h1 h2 => hS.2.1 a h1 h2)).narrow hFc)⟩⟩ rfl rfl hl.1 rfl (lv_room (Nat.le_of_ble_eq_true rfl)) d_SB_append_2 ⟨Nat.le_of_ble_eq_true rfl, Nat.le_of_ble_eq_true rfl⟩) hS (fun q _ h => hFc q h) hFc (fun u1 ra4 t H1 locs ht hvm hw3 hB hz1 hk1 hS => ?_)
    obtain ⟨x5, hP1, hK1, hD1⟩ := hB
    rw [ht] at hP1
    have hK1 := va_K.moved hvm.symm hK1
    have hw3 : True := hw3
    obtain ⟨hP, hD⟩ := va_join (wr := []) (w1 := [(x, .inr (13, [.ref x5, .int 0, .int ml, .int 143])), (x5, .inl (cB, 286, .inl (upd (va_cpy f (fun _ => 0) 0 0 142) 142 (sb_b ch))))]) hP hD [0, 1] [] rfl rfl (by decide) (by decide) hk1 hFc hP1 hD1
    have hK := (hK.sub (tys' := []) [] rfl).app hK1
    generalize H1 = H at hP hS ⊢
    have hP : va_P (dC, dI) vwCl [(x, .inr (13, [.ref x5, .int 0, .int ml, .int 143])), (x5, .inl (cB, 286, .inl (upd (va_cpy f (fun _ => 0) 0 0 142) 142 (sb_b ch))))] H := hP
    have hD : va_D A [(x, .inr (13, [.ref x5, .int 0, .int ml, .int 143])), (x5, .inl (cB, 286, .inl (upd (va_cpy f (fun _ => 0) 0 0 142) 142 (sb_b ch))))] := hD
    have hK : va_K (dC, dI) vwCl [(cB, .byte)] s := hK
    refine W.widen (k := 1) (n := 286) (Nat.le_of_ble_eq_true rfl) (Nat.le_of_ble_eq_true rfl) ?_
    refine lv_pop hx hb d_SB_append_5 rfl ?_
    refine lv_aload_n hx hb d_SB_append_6 rfl (lv_at hl 0 rfl) ?_
    have hln2 : (tx ++ [ch]).length = 143 := by simp [hln]
    have hP : va_P (dC, dI) vwCl [(x, .inr (13, [.ref x5, .int 0, .int ml, .int (nI (tx ++ [ch]).length)])), (x5, .inl (cB, 286, .inl (upd (va_cpy f (fun _ => 0) 0 0 142) 142 (sb_b ch))))] H := by rw [hln2]; exact hP
    have hD : va_D A [(x, .inr (13, [.ref x5, .int 0, .int ml, .int (nI (tx ++ [ch]).length)])), (x5, .inl (cB, 286, .inl (upd (va_cpy f (fun _ => 0) 0 0 142) 142 (sb_b ch))))] := by rw [hln2]; exact hD
    have hP9 := hP.sub (ws' := [(x, .inr (13, [.ref x5, .int 0, .int ml, .int (nI (tx ++ [ch]).length)])), (x5, .inl (cB, 286, .inl (upd (va_cpy f (fun _ => 0) 0 0 142) 142 (sb_b ch))))]) [0, 1] rfl
    have hD9 := hD.sub (ws' := [(x, .inr (13, [.ref x5, .int 0, .int ml, .int (nI (tx ++ [ch]).length)])), (x5, .inl (cB, 286, .inl (upd (va_cpy f (fun _ => 0) 0 0 142) 142 (sb_b ch))))]) [0, 1] (by decide) rfl
    have hK9 := hK.sub (tys' := [(cB, .byte)]) [0] rfl
    refine W.widen (k := 1) (n := 286) (Nat.le_of_ble_eq_true rfl) (Nat.le_of_ble_eq_true rfl) ?_
    exact W.aret (v := .ref x) hx hb hr (Or.inl ⟨_, rfl⟩) (Or.inr ⟨_, rfl⟩) (fun t ht hW => ⟨⟨(286, (upd (va_cpy f (fun _ => 0) 0 0 142) 142 (sb_b ch))), x, rfl, bld_grow hB hln hch (c2 := 286) (by decide) (by decide), ⟨x5, by rw [ht]; exact hP9, va_K.moved hW.alike hK9, hD9⟩⟩, hS.F ht⟩) hS.2.2 d_SB_append_7
