theorem drop_seg {tx : List Nat} {j e : Nat} (h1 : j < e) (h2 : e ≤ tx.length) (hj : tx.getD j 0 = 47) : tx.drop j = 47 :: ((tx.drop (j + 1)).take (e - (j + 1)) ++ tx.drop e) := by
  rw [drop_cons (by omega), hj]
  congr 1
  conv => lhs; rw [← List.take_append_drop (e - (j + 1)) (tx.drop (j + 1))]
  rw [List.drop_drop, show j + 1 + (e - (j + 1)) = e by omega]
theorem seg_mem {tx : List Nat} {j e c : Nat} (h2 : e ≤ tx.length) (hq : ∀ q, j ≤ q → q < e → ¬ tx.getD q 0 = 47) (hc : c ∈ (tx.drop j).take (e - j)) : ¬ c = 47 := by
  obtain ⟨i, hi, rfl⟩ := List.mem_iff_getElem.mp hc
  rw [List.length_take, List.length_drop] at hi
  rw [List.getElem_take, List.getElem_drop]
  have := hq (j + i) (by omega) (by omega)
  rwa [List.getD_eq_getElem?_getD, List.getElem?_eq_getElem (by omega)] at this
theorem lit_no : ∀ i, i < 16 → 47 ∉ LTx.getD i [] := by decide +kernel
theorem not_tl {cB : ClassId} {aK : Nat → Nat} {tl : va_W} {a : Nat} {tx : List Nat} (h : TX cB aK tl a tx) (hm : 47 ∈ tx) : TXz cB tl a tx := by
  rcases h with h | ⟨i, hi, _, rfl⟩
  · exact h
  · exact absurd hm (lit_no i hi)
/-- the text of a string -/
def txR (rows : List Row) : List Nat := match rows with
  | [] => []
  | q :: _ => q.2.2.2.1
theorem neg_back {j : Nat} (h : nI j - 1 < 0) (hj : j < 1000) : j = 0 := by
  cases j with
  | zero => rfl
  | succ k =>
    rw [nI_pred] at h
    exact absurd h (nI_pos (by omega))
theorem lit_codes : ∀ i, i < 16 → ∀ c ∈ LTx.getD i [], c < 128 := by decide +kernel
theorem TX.codes {cB : ClassId} {aK : Nat → Nat} {tl : va_W} {a : Nat} {tx : List Nat} (h : TX cB aK tl a tx) : ∀ c ∈ tx, c < 128 := by
  rcases h with ⟨_, _, _, _, _, h, _⟩ | ⟨i, hi, _, rfl⟩
  · exact h
  · exact lit_codes i hi
set_option maxHeartbeats 1000000 in
set_option maxRecDepth 100000 in
/-- of(null, builder) -/
theorem k_PT_ofN (l : Launch) (dC : Nat → ClassId) (dI : Nat → Nat → Nat) (sz : Nat) (sb : Nat) (bv : Nat) (ml : Int32) (cB : ClassId) (g : Nat → Int32) (cap : Nat) (tx : List Nat) : Met l y_PT_of ws_PT_of ({ frames := 0, cells := 0, slots := 0, locals := 0 }) (va_Pc [.null, .ref sb] (fun U => U.heap.size = sz ∧ va_P (dC, dI) vwCl [] U.heap ∧ va_K (dC, dI) vwCl [] U ∧ va_D (fun _ => True) [])) (va_Qq (fun (r : Option Nat) (u : Unit) => r = none) (fun u t => va_P (dC, dI) vwCl [] t.heap ∧ va_K (dC, dI) vwCl [] t ∧ va_D (va_A [] sz) []) (va_A [] sz)) 0 0 (va_A [] sz) := by
  refine Met.ofW (cc := c_PT_of) (maxL := 7) (ret := (some (.object "PatchStore$Pointer"))) (by decide) rfl ?_
  intro p e s m args below meth c s₁ B hml hv
  obtain ⟨rfl, hsz, hP, hK, hD0⟩ := hv
  have hx := B.exec
  have hb := B.bytes
  have hr := B.returns
  have hts := atoms_spec (ws := ws_PT_of) B.pre
  have htb := fun w (h : w ∈ TBL) => hts w (List.mem_cons_of_mem _ h)
  have hown : s.vm.findClass R_PT = some m.cls := findClass_of_methodNamed B.named
  have hlocks := B.notSynchronized
  subst hsz
  have hD := hD0.self (sz := s.heap.size)
  generalize hAe : va_A [] s.heap.size = A at hD ⊢
  have hA : ∀ q : Nat, s.heap.size ≤ q → A q := fun q h => by rw [← hAe]; exact Or.inr h
  have hS : va_S A s.heap s.heap [] := va_S.rf
  have hP : va_P (dC, dI) vwCl [] s.heap := hP
  have hl := lv_entry ([.null, .ref sb]) (n := 7) (Nat.le_of_ble_eq_true rfl)
  rw [lg_entry_eq]
  generalize (lg_sl ([.null, .ref sb]) ++ List.replicate (7 - (lg_sl ([.null, .ref sb])).length) Slot.unset).toArray = ls at hl ⊢
  have hl : lv_has ls 7 [(0, .null), (1, .ref sb)] := hl
  refine lv_aload_nN hx hb d_PT_of_0 rfl (lv_at hl 0 rfl) ?_
  refine lv_ifnullN (tgt := 12) hx hb d_PT_of_1 rfl ?_
  refine lv_null hx hb d_PT_of_12 ?_
  have hP9 := hP.sub (ws' := []) [] rfl
  have hD9 := hD.sub (ws' := []) [] (by decide) rfl
  have hK9 := hK.sub (tys' := []) [] rfl
  refine W.widen (k := 0) (n := 0) (Nat.le_of_ble_eq_true rfl) (Nat.le_of_ble_eq_true rfl) ?_
  exact W.aret (v := .null) hx hb hr (Or.inl ⟨_, rfl⟩) (Or.inl rfl) (fun t ht hW => ⟨⟨none, (), rfl, rfl, ⟨by rw [ht]; exact hP9, va_K.moved hW.alike hK9, hD9⟩⟩, hS.F ht⟩) hS.2.2 d_PT_of_13
set_option maxHeartbeats 1000000 in
set_option maxRecDepth 100000 in
/-- Pointer.of(value, builder) -/
theorem k_PT_of (l : Launch) (dC : Nat → ClassId) (dI : Nat → Nat → Nat) (sz : Nat) (a : Nat) (d : Nat) (nn : List Nat) (rows : List Row) (sb : Nat) (bv : Nat) (ml : Int32) (cB : ClassId) (g : Nat → Int32) (cap : Nat) (tx : List Nat) (cO : ClassId) (em : Nat) (aK : Nat → Nat) (aV : Nat → Nat) (fz : va_W) (hv : VT cB cO em aK (d + 1) fz a nn rows) (hB : Bld tx cap g) (hl9 : (txR rows).length ≤ 160) : Met l y_PT_of ws_PT_of ({ frames := 7, cells := (1 + 5 * (txR rows).length), slots := (3 + 331 * (txR rows).length), locals := 175 }) (va_Pc [.ref a, .ref sb] (fun U => U.heap.size = sz ∧ va_P (dC, dI) vwCl ([(sb, .inr (13, [.ref bv, .int 0, .int ml, .int (nI tx.length)])), (bv, .inl (cB, cap, .inl g))] ++ fz) U.heap ∧ va_K (dC, dI) vwCl [(cB, .byte)] U ∧ va_D (fun _ => True) ([(sb, .inr (13, [.ref bv, .int 0, .int ml, .int (nI tx.length)])), (bv, .inl (cB, cap, .inl g))] ++ fz) ∧ EX em aK aV (va_A ([(sb, .inr (13, [.ref bv, .int 0, .int ml, .int (nI tx.length)])), (bv, .inl (cB, cap, .inl g))] ++ fz) sz) U U.heap)) (va_Qq (fun (r : Option Nat) (u : Int32 × List Nat × Nat × (Nat → Int32) × va_W) => Bld u.2.1 u.2.2.1 u.2.2.2.1 ∧ ((r = none ∧ (¬ hdK rows = 4 ∨ ptr (txR rows) = none)) ∨ ∃ y8 s8, r = some y8 ∧ hdK rows = 4 ∧ ptr (txR rows) = some s8 ∧ PTz cB aK (u.2.2.2.2 ++ fz) s8 y8)) (fun u t => ∃ (bv9 : Nat), va_P (dC, dI) vwCl ([(sb, .inr (13, [.ref bv9, .int 0, .int u.1, .int (nI u.2.1.length)])), (bv9, .inl (cB, u.2.2.1, .inl u.2.2.2.1))] ++ (u.2.2.2.2 ++ fz)) t.heap ∧ va_K (dC, dI) vwCl [(cB, .byte)] t ∧ va_D (va_A ([(sb, .inr (13, [.ref bv, .int 0, .int ml, .int (nI tx.length)])), (bv, .inl (cB, cap, .inl g))] ++ fz) sz) ([(sb, .inr (13, [.ref bv9, .int 0, .int u.1, .int (nI u.2.1.length)])), (bv9, .inl (cB, u.2.2.1, .inl u.2.2.2.1))] ++ (u.2.2.2.2 ++ fz))) (va_A ([(sb, .inr (13, [.ref bv, .int 0, .int ml, .int (nI tx.length)])), (bv, .inl (cB, cap, .inl g))] ++ fz) sz)) (1 + 5 * (txR rows).length) (3 + 331 * (txR rows).length) (va_A ([(sb, .inr (13, [.ref bv, .int 0, .int ml, .int (nI tx.length)])), (bv, .inl (cB, cap, .inl g))] ++ fz) sz) := by
  refine Met.ofW (cc := c_PT_of) (maxL := 7) (ret := (some (.object "PatchStore$Pointer"))) (by decide) rfl ?_
  intro p e s m args below meth c s₁ B hml hv
  obtain ⟨hargs, hsz, hP, hK, hD0, hE⟩ := hv
  rw [show entryFrame m args 7 = entryFrame m ([.ref a, .ref sb]).toArray 7 by rw [hargs]]
  have hx := B.exec
  have hb := B.bytes
  have hr := B.returns
  have hts := atoms_spec (ws := ws_PT_of) B.pre
  have htb := fun w (h : w ∈ TBL) => hts w (List.mem_cons_of_mem _ h)
  have hown : s.vm.findClass R_PT = some m.cls := findClass_of_methodNamed B.named
  have hlocks := B.notSynchronized
  subst hsz
  have hD := hD0.self (sz := s.heap.size)
  generalize hAe : va_A ([(sb, .inr (13, [.ref bv, .int 0, .int ml, .int (nI tx.length)])), (bv, .inl (cB, cap, .inl g))] ++ fz) s.heap.size = A at hD hE ⊢
  have hA : ∀ q : Nat, s.heap.size ≤ q → A q := fun q h => by rw [← hAe]; exact Or.inr h
  have hS : va_S A s.heap s.heap [] := va_S.rf
  have hP : va_P (dC, dI) vwCl ([(sb, .inr (13, [.ref bv, .int 0, .int ml, .int (nI tx.length)])), (bv, .inl (cB, cap, .inl g))] ++ fz) s.heap := hP
  have hl := lv_entry ([.ref a, .ref sb]) (n := 7) (Nat.le_of_ble_eq_true rfl)
  rw [lg_entry_eq]
  generalize (lg_sl ([.ref a, .ref sb]) ++ List.replicate (7 - (lg_sl ([.ref a, .ref sb])).length) Slot.unset).toArray = ls at hl ⊢
  have hl : lv_has ls 7 [(0, .ref a), (1, .ref sb)] := hl
  refine zz_nQ (fun Q hQ => ?_)
  obtain ⟨kd, ta, nu, nm, pa, dp, cn, tt, kk, num, rt, xs, ns, hc, htx, hnm, hal, hhd, hnl, hrl, hk5, hvl, hhk, hns, hdp, hcn, hrw, h160⟩ := (id hv : VT cB cO em aK (d + 1) fz a nn rows).opn
  refine lv_aload_n hx hb d_PT_of_0 rfl (lv_at hl 0 rfl) ?_
  refine lv_ifnull hx hb d_PT_of_1 ?_
  refine lv_aload_n hx hb d_PT_of_4 rfl (lv_at hl 0 rfl) ?_
  obtain ⟨qz1, hz1⟩ := List.getElem?_of_mem (List.mem_append_right [(sb, .inr (13, [.ref bv, .int 0, .int ml, .int (nI tx.length)])), (bv, .inl (cB, cap, .inl g))] hc)
  refine va_get (D := (dC, dI)) (ci := 3) (v := .int kd) (C := R_VA) (T := T_VA) (N := 7) hx hb htb in_VA hown hK hP qz1 hz1 rfl 0 (by decide) (htb _ m_381) (fun _ h9 => h9) rfl d_PT_of_5 ?_
  refine lv_iconst (v := 2) hx hb d_PT_of_8 (by decide) ?_
  refine lv_icmp_eq (tgt := 14) hx hb d_PT_of_9 rfl (fun h1 => ?_) (fun h1 => ?_)
  · have h1 : kk = 4 := (hhd.kind.2.2.1).mp h1
    have htt : tt = rt := by rcases hhd with ⟨_, h, _⟩ | ⟨_, h, _⟩ | ⟨_, _, h, _⟩ | ⟨_, h, _⟩ | ⟨_, h, _⟩; exact absurd h1 (by omega); exact absurd h1 (by omega); exact h; exact absurd h1 (by omega); exact absurd h1 (by omega)
    have hrt : txR rows = tt := by rw [hrw, htt]; rfl
    rw [hrt] at hl9
    have htlen : (txR rows).length = tt.length := by rw [hrt]
    have hk4 : hdK rows = 4 := hhk.trans h1
    refine lv_aload_n hx hb d_PT_of_14 rfl (lv_at hl 0 rfl) ?_
    obtain ⟨qz2, hz2⟩ := List.getElem?_of_mem (List.mem_append_right [(sb, .inr (13, [.ref bv, .int 0, .int ml, .int (nI tx.length)])), (bv, .inl (cB, cap, .inl g))] hc)
    refine va_get (D := (dC, dI)) (ci := 3) (v := .ref ta) (C := R_VA) (T := T_VA) (N := 7) hx hb htb in_VA hown hK hP qz2 hz2 rfl 1 (by decide) (htb _ m_386) (fun _ h9 => h9) rfl d_PT_of_15 ?_
    refine lv_astore_n hx hb d_PT_of_18 rfl hl (by decide) rfl (fun ls hl => ?_)
    have hl : lv_has ls 7 [(2, .ref ta), (0, .ref a), (1, .ref sb)] := hl
    refine va_new (ci := 5) (fs := [.null, .int 0, .null]) (C := R_PT) (T := T_PT) (N := 3) hx hb htb in_PT ty_PT ty_PT_ok hown (htb _ m_613) (htb _ m_614) (htb _ m_21) hK hP hD hS hA rfl (fun j hj => by rcases (show j = 0 ∨ j = 1 ∨ j = 2 by omega) with rfl | rfl | rfl <;> rfl) ((by show 1 ≤ (1 + 5 * (txR rows).length); omega)) ((by show 3 ≤ (3 + 331 * (txR rows).length); omega)) d_PT_of_19 (fun q0 H hP hD hS => ?_)
    have hP := zz_rotP (pre := [(sb, .inr (13, [.ref bv, .int 0, .int ml, .int (nI tx.length)])), (bv, .inl (cB, cap, .inl g))]) (fz := fz) hP
    have hD := zz_rotD (pre := [(sb, .inr (13, [.ref bv, .int 0, .int ml, .int (nI tx.length)])), (bv, .inl (cB, cap, .inl g))]) (fz := fz) hD
    have hP : va_P (dC, dI) vwCl ([(sb, .inr (13, [.ref bv, .int 0, .int ml, .int (nI tx.length)])), (bv, .inl (cB, cap, .inl g)), (q0, .inr (5, [.null, .int 0, .null]))] ++ fz) H := hP
    have hD : va_D A ([(sb, .inr (13, [.ref bv, .int 0, .int ml, .int (nI tx.length)])), (bv, .inl (cB, cap, .inl g)), (q0, .inr (5, [.null, .int 0, .null]))] ++ fz) := hD
    refine W.widen (k := 1) (n := 3) (Nat.le_of_ble_eq_true rfl) (Nat.le_of_ble_eq_true rfl) ?_
    refine lv_dup hx hb d_PT_of_22 rfl ?_
    refine va_ldcS hx hb hown (lr_14 hE) d_PT_of_23 ?_
    refine lv_null hx hb d_PT_of_25 ?_
    have hPc := zz_pickP (pre := [(sb, .inr (13, [.ref bv, .int 0, .int ml, .int (nI tx.length)])), (bv, .inl (cB, cap, .inl g)), (q0, .inr (5, [.null, .int 0, .null]))]) (fz := fz) (wc := [(q0, .inr (5, [.null, .int 0, .null]))]) hP [2] rfl
    have hDc := zz_pickD (pre := [(sb, .inr (13, [.ref bv, .int 0, .int ml, .int (nI tx.length)])), (bv, .inl (cB, cap, .inl g)), (q0, .inr (5, [.null, .int 0, .null]))]) (fz := fz) (wc := [(q0, .inr (5, [.null, .int 0, .null]))]) hD [2] (by decide) rfl
    have hFc := zz_free (pre := [(sb, .inr (13, [.ref bv, .int 0, .int ml, .int (nI tx.length)])), (bv, .inl (cB, cap, .inl g)), (q0, .inr (5, [.null, .int 0, .null]))]) (fz := fz) (wc := [(q0, .inr (5, [.null, .int 0, .null]))]) hD hS hA [2] rfl
    have hKc := hK.sub (tys' := [(cB, .byte)]) [0] rfl
    refine va_callv (va_runI (As := [.ref (aK 0), .null]) (rest := [.ref q0]) ⟨hx, hb, hml, hown, htb⟩ (k_PT_initN l dC dI _ q0 (aK 0) ([] : List Nat) cB em aK aV fz (Or.inr ⟨0, by decide, rfl, rfl⟩) (fun c hc => by cases hc)) (cwI 2 htb (g_all (fun _ h => h) m_618) rfl rfl rfl (htb _ m_21) (htb _ m_616) (htb _ m_617) rfl (by decide +kernel) ⟨Nat.le_of_ble_eq_true rfl, Nat.le_of_ble_eq_true rfl⟩) ⟨fun a U g mk q => by obtain ⟨q0, q1, qP, qK, qD, z0⟩ := q; exact ⟨q0, q1, qP, va_K.moved (u := U) (U := U.calling g mk a) (Vm.Alike.refl U.vm) qK, qD, EX.same (U := U) (U' := U.calling g mk a) rfl z0⟩, fun U hU hW => ⟨rfl, by rw [hU], by rw [hU]; exact hPc, va_K.moved hW.alike hKc, hDc.weaken (fun _ _ _ _ => trivial), by rw [hU]; exact EX.warm hW ((hE.kept (fun a h1 h2 => hS.2.1 a h1 h2)).narrow hFc)⟩⟩ rfl rfl hl.1 rfl (lv_room (Nat.le_of_ble_eq_true rfl)) d_PT_of_26 ⟨(by show 1 ≤ (1 + 5 * (txR rows).length); omega), (by show 3 ≤ (3 + 331 * (txR rows).length); omega)⟩) hS (fun q _ h => hFc q h) hFc (fun u3 t H1 locs ht hvm hw5 hB hz1 hk1 hS => ?_)
    obtain ⟨hP1, hK1, hD1⟩ := hB
    rw [ht] at hP1
    have hK1 := va_K.moved hvm.symm hK1
    have hw5 : True := hw5
    obtain ⟨hP, hD⟩ := zz_join (pre := [(sb, .inr (13, [.ref bv, .int 0, .int ml, .int (nI tx.length)])), (bv, .inl (cB, cap, .inl g)), (q0, .inr (5, [.null, .int 0, .null]))]) (fz := fz) (wc := [(q0, .inr (5, [.null, .int 0, .null]))]) (wr := [(sb, .inr (13, [.ref bv, .int 0, .int ml, .int (nI tx.length)])), (bv, .inl (cB, cap, .inl g))]) (w1 := ([(q0, .inr (5, [.ref (aK 0), .int (oI (wnum ([] : List Nat))), .null]))] ++ fz)) hP hD [2] [0, 1] rfl rfl (by decide) (by decide) hk1 hFc hP1 hD1
    have hK := (hK.sub (tys' := []) [] rfl).app hK1
    generalize H1 = H at hP hS ⊢
    have hP : va_P (dC, dI) vwCl ([(sb, .inr (13, [.ref bv, .int 0, .int ml, .int (nI tx.length)])), (bv, .inl (cB, cap, .inl g)), (q0, .inr (5, [.ref (aK 0), .int (oI (wnum ([] : List Nat))), .null]))] ++ fz) H := hP
    have hD : va_D A ([(sb, .inr (13, [.ref bv, .int 0, .int ml, .int (nI tx.length)])), (bv, .inl (cB, cap, .inl g)), (q0, .inr (5, [.ref (aK 0), .int (oI (wnum ([] : List Nat))), .null]))] ++ fz) := hD
    have hK : va_K (dC, dI) vwCl [(cB, .byte)] s := hK
    refine lv_astore_n hx hb d_PT_of_29 rfl hl (by decide) rfl (fun ls hl => ?_)
    have hl : lv_has ls 7 [(3, .ref q0), (2, .ref ta), (0, .ref a), (1, .ref sb)] := hl
    refine lv_aload_n hx hb d_PT_of_30 rfl (lv_at hl 1 rfl) ?_
    obtain ⟨v_a, hSV_a⟩ := htx.sv htb hE (fun q h1 h2 => hS.2.1 q h1 h2) hK hP (fun q hq => List.mem_append_right _ hq) 0 rfl
    have hcc : ∀ c ∈ tt, c < 128 := hSV_a.2.2.2.2.1
    have hPc : va_P (dC, dI) vwCl [] _ := hP.sub (ws' := []) [] rfl
    have hKc := hK.sub (tys' := []) [] rfl
    refine vp_callSi (W.runV (As := []) (rest := []) ⟨hx, hb, hml, hown, htb⟩ (q_ST_length l dC dI ta v_a tt em aK aV A ) (cwV 0 htb (g_V (fun _ h => h) m_452 m_623 m_450 m_451 m_4) rfl rfl rfl (by decide +kernel) ⟨Nat.le_of_ble_eq_true rfl, Nat.le_of_ble_eq_true rfl⟩) ⟨fun a U g mk q => by obtain ⟨q0, qP, qK, z0, z1⟩ := q; exact ⟨q0, qP, va_K.moved (u := U) (U := U.calling g mk a) (Vm.Alike.refl U.vm) qK, EX.same (U := U) (U' := U.calling g mk a) rfl z0, SV.moved (Vm.Alike.refl U.vm) z1⟩, hSV_a.recv, fun U hU hW => ⟨rfl, by rw [hU]; exact hPc, va_K.moved hW.alike hKc, by rw [hU]; exact EX.warm hW (hE.kept (fun a h1 h2 => hS.2.1 a h1 h2)), by rw [hU]; exact SV.moved hW.alike hSV_a⟩⟩ rfl rfl hl.1 rfl (lv_room (Nat.le_of_ble_eq_true rfl)) d_PT_of_31 ⟨(by show 1 ≤ (1 + 5 * (txR rows).length); omega), (by show 3 ≤ (3 + 331 * (txR rows).length); omega)⟩) (fun r7 hw8 => ?_)
    have hw8 : r7 = nI tt.length := hw8
    obtain rfl := hw8
    refine lv_istore hx hb d_PT_of_34 hl (by decide) rfl (fun ls hl => ?_)
    have hl : lv_has ls 7 [(4, .int (nI tt.length)), (3, .ref q0), (2, .ref ta), (0, .ref a), (1, .ref sb)] := hl
    refine lv_iload hx hb d_PT_of_36 (lv_at hl 0 rfl) ?_
    refine lv_iconst (v := 1) hx hb d_PT_of_38 (by decide) ?_
    refine lv_isub hx hb d_PT_of_39 ?_
    refine lv_istore hx hb d_PT_of_40 hl (by decide) rfl (fun ls hl => ?_)
    have hl : lv_has ls 7 [(5, .int ((nI tt.length) - 1)), (4, .int (nI tt.length)), (3, .ref q0), (2, .ref ta), (0, .ref a), (1, .ref sb)] := hl
    have hP := zz_pickP (pre := [(sb, .inr (13, [.ref bv, .int 0, .int ml, .int (nI tx.length)])), (bv, .inl (cB, cap, .inl g)), (q0, .inr (5, [.ref (aK 0), .int (oI (wnum ([] : List Nat))), .null]))]) (fz := fz) (wc := [(sb, .inr (13, [.ref bv, .int 0, .int ml, .int (nI tx.length)])), (bv, .inl (cB, cap, .inl g)), (q0, .inr (5, [.ref (aK 0), .int (oI (wnum ([] : List Nat))), .null]))]) hP [0, 1, 2] rfl
    have hD := zz_pickD (pre := [(sb, .inr (13, [.ref bv, .int 0, .int ml, .int (nI tx.length)])), (bv, .inl (cB, cap, .inl g)), (q0, .inr (5, [.ref (aK 0), .int (oI (wnum ([] : List Nat))), .null]))]) (fz := fz) (wc := [(sb, .inr (13, [.ref bv, .int 0, .int ml, .int (nI tx.length)])), (bv, .inl (cB, cap, .inl g)), (q0, .inr (5, [.ref (aK 0), .int (oI (wnum ([] : List Nat))), .null]))]) hD [0, 1, 2] (by decide) rfl
    have hP : va_P (dC, dI) vwCl ([(sb, .inr (13, [.ref bv, .int 0, .int ml, .int (nI tx.length)])), (bv, .inl (cB, cap, .inl g))] ++ ([(q0, .inr (5, [.ref (aK 0), .int (oI (wnum ([] : List Nat))), .null]))] ++ fz)) _ := hP
    have hD : va_D A ([(sb, .inr (13, [.ref bv, .int 0, .int ml, .int (nI tx.length)])), (bv, .inl (cB, cap, .inl g))] ++ ([(q0, .inr (5, [.ref (aK 0), .int (oI (wnum ([] : List Nat))), .null]))] ++ fz)) := hD
    have hloop : ∀ (k9 : Nat) (j : Nat) (e1 : Nat) (p2 : Nat) (ss1 : List (List Nat)) (nz1 : va_W) (bv1 : Nat) (ml1 : Int32) (cap1 : Nat) (g1 : Nat → Int32) (tx1 : List Nat) (H : Heap) (locs : List Loc) (ls : Array Slot), j = k9 → (j ≤ e1) → (PTz cB aK (nz1 ++ fz) ss1 p2) → (Bld tx1 cap1 g1) → (ptr (tt.drop e1) = some ss1) → (∀ q, j ≤ q → q < e1 → ¬ tt.getD q 0 = 47) → (e1 = tt.length ∨ tt.getD e1 0 = 47) → (e1 ≤ tt.length ∧ tt.length ≤ 160) → lv_has ls 7 [(5, .int (nI j - 1)), (4, .int (nI e1)), (3, .ref p2), (2, .ref ta), (1, .ref sb)] → va_P (dC, dI) vwCl ([(sb, .inr (13, [.ref bv1, .int 0, .int ml1, .int (nI tx1.length)])), (bv1, .inl (cB, cap1, .inl g1))] ++ (nz1 ++ fz)) H → va_D A ([(sb, .inr (13, [.ref bv1, .int 0, .int ml1, .int (nI tx1.length)])), (bv1, .inl (cB, cap1, .inl g1))] ++ (nz1 ++ fz)) → va_S A s.heap H locs → W p l e (headSpec ws_PT_of ({ frames := 7, cells := (1 + 5 * (txR rows).length), slots := (3 + 331 * (txR rows).length), locals := 175 })).room s m args below meth c H locs (1 + 5 * (tt.length - e1)) (3 + 331 * (tt.length - e1)) Q (F0 m 42 ls []) := by
      intro k9
      induction k9 using Nat.strongRecOn with
      | ind k9 ih =>
        intro j e1 p2 ss1 nz1 bv1 ml1 cap1 g1 tx1 H locs ls hk9 hi1 hi2 hiB hi4 hi5 hi6 hi7 hl hP hD hS
        have htx1 : TX cB aK (nz1 ++ fz) ta tt := htx.mono (fun q hq => List.mem_append_right _ hq)
        refine lv_iload hx hb d_PT_of_42 (lv_at hl 0 rfl) ?_
        refine lv_if_lt (tgt := 102) hx hb d_PT_of_44 rfl (fun h2 => ?_) (fun h2 => ?_)
        · have h2 : j = 0 := neg_back h2 (by omega)
          rw [h2] at hi5 hi1
          refine lv_iload hx hb d_PT_of_102 (lv_at hl 1 rfl) ?_
          refine lv_if_ne (tgt := 111) hx hb d_PT_of_104 rfl (fun h3 => ?_) (fun h3 => ?_)
          · have h3 : ¬ e1 = 0 := fun h => h3 (by rw [h]; rfl)
            have hp0 : ptr tt = none := by rw [← List.drop_zero (l := tt), drop_cons (show 0 < tt.length by omega)]; exact if_neg (hi5 0 (Nat.le_refl _) (by omega))
            refine lv_null hx hb d_PT_of_111 ?_
            have hP9 := zz_pickP (pre := [(sb, .inr (13, [.ref bv1, .int 0, .int ml1, .int (nI tx1.length)])), (bv1, .inl (cB, cap1, .inl g1))]) (fz := (nz1 ++ fz)) (wc := [(sb, .inr (13, [.ref bv1, .int 0, .int ml1, .int (nI tx1.length)])), (bv1, .inl (cB, cap1, .inl g1))]) hP [0, 1] rfl
            have hD9 := zz_pickD (pre := [(sb, .inr (13, [.ref bv1, .int 0, .int ml1, .int (nI tx1.length)])), (bv1, .inl (cB, cap1, .inl g1))]) (fz := (nz1 ++ fz)) (wc := [(sb, .inr (13, [.ref bv1, .int 0, .int ml1, .int (nI tx1.length)])), (bv1, .inl (cB, cap1, .inl g1))]) hD [0, 1] (by decide) rfl
            have hK9 := hK.sub (tys' := [(cB, .byte)]) [0] rfl
            rw [hQ]
            refine W.widen (k := (1 + 5 * (txR rows).length)) (n := (3 + 331 * (txR rows).length)) ((by show (1 + 5 * (tt.length - e1)) ≤ (1 + 5 * (txR rows).length); omega)) ((by show (3 + 331 * (tt.length - e1)) ≤ (3 + 331 * (txR rows).length); omega)) ?_
            exact W.aret (v := .null) hx hb hr (Or.inl ⟨_, rfl⟩) (Or.inl rfl) (fun t ht hW => ⟨⟨none, (ml1, tx1, cap1, g1, nz1), rfl, ⟨hiB, Or.inl ⟨rfl, Or.inr (by rw [hrt]; exact hp0)⟩⟩, ⟨bv1, by rw [ht]; exact hP9, va_K.moved hW.alike hK9, hD9⟩⟩, hS.F ht⟩) hS.2.2 d_PT_of_112
          · have h3 : e1 = 0 := (nI_eq (by omega) (by decide)).mp h3
            refine lv_aload_n hx hb d_PT_of_107 rfl (lv_at hl 2 rfl) ?_
            refine lv_goto (tgt := 112) hx hb d_PT_of_108 rfl ?_
            rw [h3, List.drop_zero] at hi4
            have hP9 := zz_pickP (pre := [(sb, .inr (13, [.ref bv1, .int 0, .int ml1, .int (nI tx1.length)])), (bv1, .inl (cB, cap1, .inl g1))]) (fz := (nz1 ++ fz)) (wc := [(sb, .inr (13, [.ref bv1, .int 0, .int ml1, .int (nI tx1.length)])), (bv1, .inl (cB, cap1, .inl g1))]) hP [0, 1] rfl
            have hD9 := zz_pickD (pre := [(sb, .inr (13, [.ref bv1, .int 0, .int ml1, .int (nI tx1.length)])), (bv1, .inl (cB, cap1, .inl g1))]) (fz := (nz1 ++ fz)) (wc := [(sb, .inr (13, [.ref bv1, .int 0, .int ml1, .int (nI tx1.length)])), (bv1, .inl (cB, cap1, .inl g1))]) hD [0, 1] (by decide) rfl
            have hK9 := hK.sub (tys' := [(cB, .byte)]) [0] rfl
            rw [hQ]
            refine W.widen (k := (1 + 5 * (txR rows).length)) (n := (3 + 331 * (txR rows).length)) ((by show (1 + 5 * (tt.length - e1)) ≤ (1 + 5 * (txR rows).length); omega)) ((by show (3 + 331 * (tt.length - e1)) ≤ (3 + 331 * (txR rows).length); omega)) ?_
            exact W.aret (v := .ref p2) hx hb hr (Or.inl ⟨_, rfl⟩) (Or.inr ⟨_, rfl⟩) (fun t ht hW => ⟨⟨(some p2), (ml1, tx1, cap1, g1, nz1), rfl, ⟨hiB, Or.inr ⟨_, ss1, rfl, hk4, by rw [hrt]; exact hi4, hi2⟩⟩, ⟨bv1, by rw [ht]; exact hP9, va_K.moved hW.alike hK9, hD9⟩⟩, hS.F ht⟩) hS.2.2 d_PT_of_112
        · have hj0 : ¬ j = 0 := fun h => h2 (by rw [h]; decide)
          obtain ⟨k1, rfl⟩ : ∃ k1, j = k1 + 1 := ⟨j - 1, by omega⟩
          rw [nI_pred] at hl
          have hl : lv_has ls 7 [(5, .int (nI k1)), (4, .int (nI e1)), (3, .ref p2), (2, .ref ta), (1, .ref sb)] := hl
          have hk1 : k1 < tt.length := by omega
          have hck : tt.getD k1 0 < 128 := by rw [List.getD_eq_getElem?_getD, List.getElem?_eq_getElem hk1]; exact hcc _ (List.getElem_mem hk1)
          refine lv_aload_n hx hb d_PT_of_47 rfl (lv_at hl 3 rfl) ?_
          refine lv_iload hx hb d_PT_of_48 (lv_at hl 0 rfl) ?_
          obtain ⟨v_a, hSV_a⟩ := htx1.sv htb hE (fun q h1 h2 => hS.2.1 q h1 h2) hK hP (fun q hq => List.mem_append_right _ hq) 0 rfl
          have hPc : va_P (dC, dI) vwCl [] _ := hP.sub (ws' := []) [] rfl
          have hKc := hK.sub (tys' := []) [] rfl
          refine vp_callSi (W.runV (As := [.int (nI k1)]) (rest := []) ⟨hx, hb, hml, hown, htb⟩ (q_ST_charAt l dC dI ta v_a tt em aK aV A k1 hk1) (cwV 1 htb (g_V (fun _ h => h) m_460 m_624 m_458 m_459 m_4) rfl rfl rfl (by decide +kernel) ⟨Nat.le_of_ble_eq_true rfl, Nat.le_of_ble_eq_true rfl⟩) ⟨fun a U g mk q => by obtain ⟨q0, qP, qK, z0, z1⟩ := q; exact ⟨q0, qP, va_K.moved (u := U) (U := U.calling g mk a) (Vm.Alike.refl U.vm) qK, EX.same (U := U) (U' := U.calling g mk a) rfl z0, SV.moved (Vm.Alike.refl U.vm) z1⟩, hSV_a.recv, fun U hU hW => ⟨rfl, by rw [hU]; exact hPc, va_K.moved hW.alike hKc, by rw [hU]; exact EX.warm hW (hE.kept (fun a h1 h2 => hS.2.1 a h1 h2)), by rw [hU]; exact SV.moved hW.alike hSV_a⟩⟩ rfl rfl hl.1 rfl (lv_room (Nat.le_of_ble_eq_true rfl)) d_PT_of_50 ⟨(by show (1 + 5 * (tt.length - e1)) ≤ (1 + 5 * (txR rows).length); omega), (by show (3 + 331 * (tt.length - e1)) ≤ (3 + 331 * (txR rows).length); omega)⟩) (fun r9 hw10 => ?_)
          have hw10 : r9 = nI (tt.getD k1 0) := hw10
          obtain rfl := hw10
          refine lv_bipush (v := 47) hx hb d_PT_of_53 (by decide) ?_
          refine lv_icmp_ne (tgt := 96) hx hb d_PT_of_55 rfl (fun h3 => ?_) (fun h3 => ?_)
          · have h3 : ¬ tt.getD k1 0 = 47 := fun h => h3 (by rw [h]; rfl)
            refine lv_iinc (k := 0) (v := ((nI k1) + Int32.ofInt (-1))) hx hb d_PT_of_96 hl rfl rfl (by decide) rfl (fun ls hl => ?_)
            have hl : lv_has ls 7 [(5, .int ((nI k1) + Int32.ofInt (-1))), (4, .int (nI e1)), (3, .ref p2), (2, .ref ta), (1, .ref sb)] := hl
            rw [show nI k1 + Int32.ofInt (-1) = nI k1 - 1 from dec1 _] at hl
            refine lv_goto (tgt := 42) hx hb d_PT_of_99 rfl ?_
            exact ih (k1) (by omega) k1 e1 p2 ss1 nz1 bv1 ml1 cap1 g1 tx1 H locs ls rfl (by omega) (hi2) (hiB) (hi4) (fun q h7 h8 => by rcases Nat.lt_or_ge k1 q with h | h; exact hi5 q h h8; rw [show q = k1 by omega]; exact h3) (hi6) (hi7) (lv_sub hl [0, 1, 2, 3, 4] rfl) (zz_pickP (pre := [(sb, .inr (13, [.ref bv1, .int 0, .int ml1, .int (nI tx1.length)])), (bv1, .inl (cB, cap1, .inl g1))]) (fz := (nz1 ++ fz)) (wc := [(sb, .inr (13, [.ref bv1, .int 0, .int ml1, .int (nI tx1.length)])), (bv1, .inl (cB, cap1, .inl g1))]) hP [0, 1] rfl) (zz_pickD (pre := [(sb, .inr (13, [.ref bv1, .int 0, .int ml1, .int (nI tx1.length)])), (bv1, .inl (cB, cap1, .inl g1))]) (fz := (nz1 ++ fz)) (wc := [(sb, .inr (13, [.ref bv1, .int 0, .int ml1, .int (nI tx1.length)])), (bv1, .inl (cB, cap1, .inl g1))]) hD [0, 1] (by decide) rfl) hS
          · have h3 : tt.getD k1 0 = 47 := (nI_eq (by omega) (by decide)).mp h3
            have htz : TXz cB (nz1 ++ fz) ta tt := not_tl htx1 (by rw [← h3, List.getD_eq_getElem?_getD, List.getElem?_eq_getElem hk1]; exact List.getElem_mem hk1)
            refine lv_aload_n hx hb d_PT_of_58 rfl (lv_at hl 3 rfl) ?_
            refine lv_iload hx hb d_PT_of_59 (lv_at hl 0 rfl) ?_
            refine lv_iconst (v := 1) hx hb d_PT_of_61 (by decide) ?_
            refine lv_iadd hx hb d_PT_of_62 ?_
            refine W.eq (congrArg (fun z => F0 m 63 ls (.int z :: [.ref ta])) (nI_1 _ : ((nI k1) + 1) = nI (k1 + 1))) ?_
            refine lv_iload hx hb d_PT_of_63 (lv_at hl 1 rfl) ?_
            refine W.eq (congrArg (fun z => F0 m 65 ls (.int z :: [.int (nI (k1 + 1)), .ref ta])) (by congr 1; omega : (nI e1) = nI (k1 + 1 + (e1 - (k1 + 1))))) ?_
            have hPc := zz_pickP (pre := [(sb, .inr (13, [.ref bv1, .int 0, .int ml1, .int (nI tx1.length)])), (bv1, .inl (cB, cap1, .inl g1))]) (fz := (nz1 ++ fz)) (wc := []) hP [] rfl
            have hDc := zz_pickD (pre := [(sb, .inr (13, [.ref bv1, .int 0, .int ml1, .int (nI tx1.length)])), (bv1, .inl (cB, cap1, .inl g1))]) (fz := (nz1 ++ fz)) (wc := []) hD [] (by decide) rfl
            have hFc := zz_free (pre := [(sb, .inr (13, [.ref bv1, .int 0, .int ml1, .int (nI tx1.length)])), (bv1, .inl (cB, cap1, .inl g1))]) (fz := (nz1 ++ fz)) (wc := []) hD hS hA [] rfl
            have hKc := hK.sub (tys' := [(cB, .byte)]) [0] rfl
            refine va_callq (va_runV (As := [.int (nI (k1 + 1)), .int (nI ((k1 + 1) + (e1 - (k1 + 1))))]) (rest := []) ⟨hx, hb, hml, hown, htb⟩ (k_ST_substring l dC dI _ ta tt (k1 + 1) (e1 - (k1 + 1)) cB em aK aV (nz1 ++ fz) htz (by omega)) (cwV 2 htb (g_V (fun _ h => h) m_642 m_639 m_640 m_641 m_4) rfl rfl rfl (by decide +kernel) ⟨Nat.le_of_ble_eq_true rfl, Nat.le_of_ble_eq_true rfl⟩) ⟨fun a U g mk q => by obtain ⟨q0, q1, qP, qK, qD, z0⟩ := q; exact ⟨q0, q1, qP, va_K.moved (u := U) (U := U.calling g mk a) (Vm.Alike.refl U.vm) qK, qD, EX.same (U := U) (U' := U.calling g mk a) rfl z0⟩, hSV_a.recv, fun U hU hW => ⟨rfl, by rw [hU], by rw [hU]; exact hPc, va_K.moved hW.alike hKc, hDc.weaken (fun _ _ _ _ => trivial), by rw [hU]; exact EX.warm hW ((hE.kept (fun a h1 h2 => hS.2.1 a h1 h2)).narrow hFc)⟩⟩ rfl rfl hl.1 rfl (lv_room (Nat.le_of_ble_eq_true rfl)) d_PT_of_65 ⟨(by show ((1 + 5 * (tt.length - e1)) + 2) ≤ (1 + 5 * (txR rows).length); omega), (by show ((3 + 331 * (tt.length - e1)) + 164) ≤ (3 + 331 * (txR rows).length); omega)⟩) hS (fun q _ h => hFc q h) hFc (fun r12 u11 t H1 locs ht hvm hw13 hB hz1 hk1 hS => ?_)
            obtain ⟨hP1, hK1, hD1⟩ := hB
            rw [ht] at hP1
            have hK1 := va_K.moved hvm.symm hK1
            have hw13 : ∃ y8, r12 = some y8 ∧ TX cB aK (u11 ++ (nz1 ++ fz)) y8 ((tt.drop (k1 + 1)).take (e1 - (k1 + 1))) := hw13
            obtain ⟨hP, hD⟩ := zz_join (pre := [(sb, .inr (13, [.ref bv1, .int 0, .int ml1, .int (nI tx1.length)])), (bv1, .inl (cB, cap1, .inl g1))]) (fz := (nz1 ++ fz)) (wc := []) (wr := [(sb, .inr (13, [.ref bv1, .int 0, .int ml1, .int (nI tx1.length)])), (bv1, .inl (cB, cap1, .inl g1))]) (w1 := ([] ++ (u11 ++ (nz1 ++ fz)))) hP hD [] [0, 1] rfl rfl (by decide) (by decide) hk1 hFc hP1 hD1
            have hK := (hK.sub (tys' := []) [] rfl).app hK1
            generalize H1 = H at hP hS ⊢
            have hP : va_P (dC, dI) vwCl ([(sb, .inr (13, [.ref bv1, .int 0, .int ml1, .int (nI tx1.length)])), (bv1, .inl (cB, cap1, .inl g1))] ++ (u11 ++ (nz1 ++ fz))) H := hP
            have hD : va_D A ([(sb, .inr (13, [.ref bv1, .int 0, .int ml1, .int (nI tx1.length)])), (bv1, .inl (cB, cap1, .inl g1))] ++ (u11 ++ (nz1 ++ fz))) := hD
            have hK : va_K (dC, dI) vwCl [(cB, .byte)] s := hK
            obtain ⟨ys, hys, hyx⟩ := hw13
            subst hys
            refine W.eq (g2 := F0 m 68 ls [.ref ys]) rfl ?_
            refine lv_aload_n hx hb d_PT_of_68 rfl (lv_at hl 4 rfl) ?_
            have hsl : ((tt.drop (k1 + 1)).take (e1 - (k1 + 1))).length = e1 - (k1 + 1) := by rw [List.length_take, List.length_drop]; omega
            have hds := drop_seg (show k1 < e1 by omega) hi7.1 h3
            have hs47 : ∀ c ∈ ((tt.drop (k1 + 1)).take (e1 - (k1 + 1))), ¬ c = 47 := fun c hc9 => seg_mem hi7.1 hi5 hc9
            have hR : tt.drop e1 = [] ∨ hd0 (tt.drop e1) = 47 := by rcases hi6 with h | h; exact Or.inl (List.drop_eq_nil_of_le (by omega)); exact Or.inr (drop_head.trans h)
            have hPc := zz_pickP (pre := [(sb, .inr (13, [.ref bv1, .int 0, .int ml1, .int (nI tx1.length)])), (bv1, .inl (cB, cap1, .inl g1))]) (fz := (u11 ++ (nz1 ++ fz))) (wc := [(sb, .inr (13, [.ref bv1, .int 0, .int ml1, .int (nI tx1.length)])), (bv1, .inl (cB, cap1, .inl g1))]) hP [0, 1] rfl
            have hDc := zz_pickD (pre := [(sb, .inr (13, [.ref bv1, .int 0, .int ml1, .int (nI tx1.length)])), (bv1, .inl (cB, cap1, .inl g1))]) (fz := (u11 ++ (nz1 ++ fz))) (wc := [(sb, .inr (13, [.ref bv1, .int 0, .int ml1, .int (nI tx1.length)])), (bv1, .inl (cB, cap1, .inl g1))]) hD [0, 1] (by decide) rfl
            have hFc := zz_free (pre := [(sb, .inr (13, [.ref bv1, .int 0, .int ml1, .int (nI tx1.length)])), (bv1, .inl (cB, cap1, .inl g1))]) (fz := (u11 ++ (nz1 ++ fz))) (wc := [(sb, .inr (13, [.ref bv1, .int 0, .int ml1, .int (nI tx1.length)])), (bv1, .inl (cB, cap1, .inl g1))]) hD hS hA [0, 1] rfl
            have hKc := hK.sub (tys' := [(cB, .byte)]) [0] rfl
            refine va_callq (va_runS (As := [.ref ys, .ref sb]) (rest := []) ⟨hx, hb, hml, hown, htb⟩ (k_PT_decoded l dC dI _ ys ((tt.drop (k1 + 1)).take (e1 - (k1 + 1))) sb bv1 ml1 cB g1 cap1 tx1 em aK aV (u11 ++ (nz1 ++ fz)) hyx hiB (by omega)) (va_cwS 2 htb (g_S (fun _ h => h) m_670 m_668 m_669 m_21) rfl rfl rfl (by decide +kernel) ⟨Nat.le_of_ble_eq_true rfl, Nat.le_of_ble_eq_true rfl⟩) ⟨fun a U g mk q => by obtain ⟨q0, q1, qP, qK, qD, z0⟩ := q; exact ⟨q0, q1, qP, va_K.moved (u := U) (U := U.calling g mk a) (Vm.Alike.refl U.vm) qK, qD, EX.same (U := U) (U' := U.calling g mk a) rfl z0⟩, fun U hU hW => ⟨rfl, by rw [hU], by rw [hU]; exact hPc, va_K.moved hW.alike hKc, hDc.weaken (fun _ _ _ _ => trivial), by rw [hU]; exact EX.warm hW ((hE.kept (fun a h1 h2 => hS.2.1 a h1 h2)).narrow hFc)⟩⟩ rfl rfl hl.1 rfl (lv_room (Nat.le_of_ble_eq_true rfl)) d_PT_of_69 ⟨(by show (((1 + 5 * (tt.length - e1)) + 2) + (2 + ((tt.drop (k1 + 1)).take (e1 - (k1 + 1))).length)) ≤ (1 + 5 * (txR rows).length); omega), (by show (((3 + 331 * (tt.length - e1)) + 164) + (164 + 286 * ((tt.drop (k1 + 1)).take (e1 - (k1 + 1))).length)) ≤ (3 + 331 * (txR rows).length); omega)⟩) hS (fun q _ h => hFc q h) hFc (fun r16 u15 t H1 locs ht hvm hw17 hB hz1 hk1 hS => ?_)
            obtain ⟨x19, hP1, hK1, hD1⟩ := hB
            rw [ht] at hP1
            have hK1 := va_K.moved hvm.symm hK1
            obtain ⟨w20, w21, w22, w23, w24⟩ := u15
            have hw17 : Bld w21 w22 w23 ∧ ((r16 = none ∧ dcd ((tt.drop (k1 + 1)).take (e1 - (k1 + 1))) = none) ∨ ∃ y8 q8, r16 = some y8 ∧ dcd ((tt.drop (k1 + 1)).take (e1 - (k1 + 1))) = some q8 ∧ TX cB aK (w24 ++ (u11 ++ (nz1 ++ fz))) y8 q8) := hw17
            obtain ⟨hP, hD⟩ := zz_join (pre := [(sb, .inr (13, [.ref bv1, .int 0, .int ml1, .int (nI tx1.length)])), (bv1, .inl (cB, cap1, .inl g1))]) (fz := (u11 ++ (nz1 ++ fz))) (wc := [(sb, .inr (13, [.ref bv1, .int 0, .int ml1, .int (nI tx1.length)])), (bv1, .inl (cB, cap1, .inl g1))]) (wr := []) (w1 := ([(sb, .inr (13, [.ref x19, .int 0, .int w20, .int (nI w21.length)])), (x19, .inl (cB, w22, .inl w23))] ++ (w24 ++ (u11 ++ (nz1 ++ fz))))) hP hD [0, 1] [] rfl rfl (by decide) (by decide) hk1 hFc hP1 hD1
            have hK := (hK.sub (tys' := []) [] rfl).app hK1
            generalize H1 = H at hP hS ⊢
            have hP : va_P (dC, dI) vwCl ([(sb, .inr (13, [.ref x19, .int 0, .int w20, .int (nI w21.length)])), (x19, .inl (cB, w22, .inl w23))] ++ (w24 ++ (u11 ++ (nz1 ++ fz)))) H := hP
            have hD : va_D A ([(sb, .inr (13, [.ref x19, .int 0, .int w20, .int (nI w21.length)])), (x19, .inl (cB, w22, .inl w23))] ++ (w24 ++ (u11 ++ (nz1 ++ fz)))) := hD
            have hK : va_K (dC, dI) vwCl [(cB, .byte)] s := hK
            obtain ⟨hB2, ⟨rfl, hdn⟩ | ⟨yd, qd, rfl, hdq, hyd⟩⟩ := hw17
            · refine W.eq (g2 := F0 m 72 ls [.null]) rfl ?_
              refine lv_astoreN hx hb d_PT_of_72 hl (by decide) rfl (fun ls hl => ?_)
              have hl : lv_has ls 7 [(6, .null), (5, .int (nI k1)), (4, .int (nI e1)), (3, .ref p2), (2, .ref ta), (1, .ref sb)] := hl
              refine lv_aloadN hx hb d_PT_of_74 (lv_at hl 0 rfl) ?_
              refine lv_ifnonnullN hx hb d_PT_of_76 ?_
              refine lv_null hx hb d_PT_of_79 ?_
              have hpn : ptr tt = none := by have h9 := ptr_bad (A := tt.take k1) hs47 hR hdn; rw [← hds, List.take_append_drop] at h9; exact h9
              have hP := zz_permP (pre := [(sb, .inr (13, [.ref x19, .int 0, .int w20, .int (nI w21.length)])), (x19, .inl (cB, w22, .inl w23))]) (t1 := (w24 ++ (u11 ++ (nz1 ++ fz)))) (t2 := ((w24 ++ (u11 ++ nz1)) ++ fz)) hP (pm3 _ _ _ _)
              have hD := zz_permD (pre := [(sb, .inr (13, [.ref x19, .int 0, .int w20, .int (nI w21.length)])), (x19, .inl (cB, w22, .inl w23))]) (t1 := (w24 ++ (u11 ++ (nz1 ++ fz)))) (t2 := ((w24 ++ (u11 ++ nz1)) ++ fz)) hD (pm3 _ _ _ _)
              have hP9 := zz_pickP (pre := [(sb, .inr (13, [.ref x19, .int 0, .int w20, .int (nI w21.length)])), (x19, .inl (cB, w22, .inl w23))]) (fz := ((w24 ++ (u11 ++ nz1)) ++ fz)) (wc := [(sb, .inr (13, [.ref x19, .int 0, .int w20, .int (nI w21.length)])), (x19, .inl (cB, w22, .inl w23))]) hP [0, 1] rfl
              have hD9 := zz_pickD (pre := [(sb, .inr (13, [.ref x19, .int 0, .int w20, .int (nI w21.length)])), (x19, .inl (cB, w22, .inl w23))]) (fz := ((w24 ++ (u11 ++ nz1)) ++ fz)) (wc := [(sb, .inr (13, [.ref x19, .int 0, .int w20, .int (nI w21.length)])), (x19, .inl (cB, w22, .inl w23))]) hD [0, 1] (by decide) rfl
              have hK9 := hK.sub (tys' := [(cB, .byte)]) [0] rfl
              rw [hQ]
              refine W.widen (k := (1 + 5 * (txR rows).length)) (n := (3 + 331 * (txR rows).length)) ((by show (((1 + 5 * (tt.length - e1)) + 2) + (2 + ((tt.drop (k1 + 1)).take (e1 - (k1 + 1))).length)) ≤ (1 + 5 * (txR rows).length); omega)) ((by show (((3 + 331 * (tt.length - e1)) + 164) + (164 + 286 * ((tt.drop (k1 + 1)).take (e1 - (k1 + 1))).length)) ≤ (3 + 331 * (txR rows).length); omega)) ?_
              exact W.aret (v := .null) hx hb hr (Or.inl ⟨_, rfl⟩) (Or.inl rfl) (fun t ht hW => ⟨⟨none, (w20, w21, w22, w23, (w24 ++ (u11 ++ nz1))), rfl, ⟨hB2, Or.inl ⟨rfl, Or.inr (by rw [hrt]; exact hpn)⟩⟩, ⟨x19, by rw [ht]; exact hP9, va_K.moved hW.alike hK9, hD9⟩⟩, hS.F ht⟩) hS.2.2 d_PT_of_80
            · refine W.eq (g2 := F0 m 72 ls [.ref yd]) rfl ?_
              refine lv_astore hx hb d_PT_of_72 hl (by decide) rfl (fun ls hl => ?_)
              have hl : lv_has ls 7 [(6, .ref yd), (5, .int (nI k1)), (4, .int (nI e1)), (3, .ref p2), (2, .ref ta), (1, .ref sb)] := hl
              refine lv_aload hx hb d_PT_of_74 (lv_at hl 0 rfl) ?_
              refine lv_ifnonnull (tgt := 81) hx hb d_PT_of_76 rfl ?_
              refine va_new (ci := 5) (fs := [.null, .int 0, .null]) (C := R_PT) (T := T_PT) (N := 3) hx hb htb in_PT ty_PT ty_PT_ok hown (htb _ m_613) (htb _ m_614) (htb _ m_21) hK hP hD hS hA rfl (fun j hj => by rcases (show j = 0 ∨ j = 1 ∨ j = 2 by omega) with rfl | rfl | rfl <;> rfl) ((by show ((((1 + 5 * (tt.length - e1)) + 2) + (2 + ((tt.drop (k1 + 1)).take (e1 - (k1 + 1))).length)) + 1) ≤ (1 + 5 * (txR rows).length); omega)) ((by show ((((3 + 331 * (tt.length - e1)) + 164) + (164 + 286 * ((tt.drop (k1 + 1)).take (e1 - (k1 + 1))).length)) + 3) ≤ (3 + 331 * (txR rows).length); omega)) d_PT_of_81 (fun qn H hP hD hS => ?_)
              have hP := zz_rotP (pre := [(sb, .inr (13, [.ref x19, .int 0, .int w20, .int (nI w21.length)])), (x19, .inl (cB, w22, .inl w23))]) (fz := (w24 ++ (u11 ++ (nz1 ++ fz)))) hP
              have hD := zz_rotD (pre := [(sb, .inr (13, [.ref x19, .int 0, .int w20, .int (nI w21.length)])), (x19, .inl (cB, w22, .inl w23))]) (fz := (w24 ++ (u11 ++ (nz1 ++ fz)))) hD
              have hP : va_P (dC, dI) vwCl ([(sb, .inr (13, [.ref x19, .int 0, .int w20, .int (nI w21.length)])), (x19, .inl (cB, w22, .inl w23)), (qn, .inr (5, [.null, .int 0, .null]))] ++ (w24 ++ (u11 ++ (nz1 ++ fz)))) H := hP
              have hD : va_D A ([(sb, .inr (13, [.ref x19, .int 0, .int w20, .int (nI w21.length)])), (x19, .inl (cB, w22, .inl w23)), (qn, .inr (5, [.null, .int 0, .null]))] ++ (w24 ++ (u11 ++ (nz1 ++ fz)))) := hD
              refine lv_dup hx hb d_PT_of_84 rfl ?_
              refine lv_aload hx hb d_PT_of_85 (lv_at hl 0 rfl) ?_
              refine lv_aload_n hx hb d_PT_of_87 rfl (lv_at hl 3 rfl) ?_
              have hcq : ∀ c ∈ qd, c < 128 := hyd.codes
              have hPc := zz_pickP (pre := [(sb, .inr (13, [.ref x19, .int 0, .int w20, .int (nI w21.length)])), (x19, .inl (cB, w22, .inl w23)), (qn, .inr (5, [.null, .int 0, .null]))]) (fz := (w24 ++ (u11 ++ (nz1 ++ fz)))) (wc := [(qn, .inr (5, [.null, .int 0, .null]))]) hP [2] rfl
              have hDc := zz_pickD (pre := [(sb, .inr (13, [.ref x19, .int 0, .int w20, .int (nI w21.length)])), (x19, .inl (cB, w22, .inl w23)), (qn, .inr (5, [.null, .int 0, .null]))]) (fz := (w24 ++ (u11 ++ (nz1 ++ fz)))) (wc := [(qn, .inr (5, [.null, .int 0, .null]))]) hD [2] (by decide) rfl
              have hFc := zz_free (pre := [(sb, .inr (13, [.ref x19, .int 0, .int w20, .int (nI w21.length)])), (x19, .inl (cB, w22, .inl w23)), (qn, .inr (5, [.null, .int 0, .null]))]) (fz := (w24 ++ (u11 ++ (nz1 ++ fz)))) (wc := [(qn, .inr (5, [.null, .int 0, .null]))]) hD hS hA [2] rfl
              have hKc := hK.sub (tys' := [(cB, .byte)]) [0] rfl
              refine va_callv (va_runI (As := [.ref yd, .ref p2]) (rest := [.ref qn]) ⟨hx, hb, hml, hown, htb⟩ (k_PT_init l dC dI _ qn yd qd cB p2 em aK aV (w24 ++ (u11 ++ (nz1 ++ fz))) hyd hcq) (cwI 2 htb (g_all (fun _ h => h) m_618) rfl rfl rfl (htb _ m_21) (htb _ m_616) (htb _ m_617) rfl (by decide +kernel) ⟨Nat.le_of_ble_eq_true rfl, Nat.le_of_ble_eq_true rfl⟩) ⟨fun a U g mk q => by obtain ⟨q0, q1, qP, qK, qD, z0⟩ := q; exact ⟨q0, q1, qP, va_K.moved (u := U) (U := U.calling g mk a) (Vm.Alike.refl U.vm) qK, qD, EX.same (U := U) (U' := U.calling g mk a) rfl z0⟩, fun U hU hW => ⟨rfl, by rw [hU], by rw [hU]; exact hPc, va_K.moved hW.alike hKc, hDc.weaken (fun _ _ _ _ => trivial), by rw [hU]; exact EX.warm hW ((hE.kept (fun a h1 h2 => hS.2.1 a h1 h2)).narrow hFc)⟩⟩ rfl rfl hl.1 rfl (lv_room (Nat.le_of_ble_eq_true rfl)) d_PT_of_88 ⟨(by show ((((1 + 5 * (tt.length - e1)) + 2) + (2 + ((tt.drop (k1 + 1)).take (e1 - (k1 + 1))).length)) + 1) ≤ (1 + 5 * (txR rows).length); omega), (by show ((((3 + 331 * (tt.length - e1)) + 164) + (164 + 286 * ((tt.drop (k1 + 1)).take (e1 - (k1 + 1))).length)) + 3) ≤ (3 + 331 * (txR rows).length); omega)⟩) hS (fun q _ h => hFc q h) hFc (fun u25 t H1 locs ht hvm hw27 hB hz1 hk1 hS => ?_)
              obtain ⟨hP1, hK1, hD1⟩ := hB
              rw [ht] at hP1
              have hK1 := va_K.moved hvm.symm hK1
              have hw27 : True := hw27
              obtain ⟨hP, hD⟩ := zz_join (pre := [(sb, .inr (13, [.ref x19, .int 0, .int w20, .int (nI w21.length)])), (x19, .inl (cB, w22, .inl w23)), (qn, .inr (5, [.null, .int 0, .null]))]) (fz := (w24 ++ (u11 ++ (nz1 ++ fz)))) (wc := [(qn, .inr (5, [.null, .int 0, .null]))]) (wr := [(sb, .inr (13, [.ref x19, .int 0, .int w20, .int (nI w21.length)])), (x19, .inl (cB, w22, .inl w23))]) (w1 := ([(qn, .inr (5, [.ref yd, .int (oI (wnum qd)), .ref p2]))] ++ (w24 ++ (u11 ++ (nz1 ++ fz))))) hP hD [2] [0, 1] rfl rfl (by decide) (by decide) hk1 hFc hP1 hD1
              have hK := (hK.sub (tys' := []) [] rfl).app hK1
              generalize H1 = H at hP hS ⊢
              have hP : va_P (dC, dI) vwCl ([(sb, .inr (13, [.ref x19, .int 0, .int w20, .int (nI w21.length)])), (x19, .inl (cB, w22, .inl w23)), (qn, .inr (5, [.ref yd, .int (oI (wnum qd)), .ref p2]))] ++ (w24 ++ (u11 ++ (nz1 ++ fz)))) H := hP
              have hD : va_D A ([(sb, .inr (13, [.ref x19, .int 0, .int w20, .int (nI w21.length)])), (x19, .inl (cB, w22, .inl w23)), (qn, .inr (5, [.ref yd, .int (oI (wnum qd)), .ref p2]))] ++ (w24 ++ (u11 ++ (nz1 ++ fz)))) := hD
              have hK : va_K (dC, dI) vwCl [(cB, .byte)] s := hK
              refine lv_astore_n hx hb d_PT_of_91 rfl hl (by decide) rfl (fun ls hl => ?_)
              have hl : lv_has ls 7 [(3, .ref qn), (6, .ref yd), (5, .int (nI k1)), (4, .int (nI e1)), (2, .ref ta), (1, .ref sb)] := hl
              refine lv_iload hx hb d_PT_of_92 (lv_at hl 2 rfl) ?_
              refine lv_istore hx hb d_PT_of_94 hl (by decide) rfl (fun ls hl => ?_)
              have hl : lv_has ls 7 [(4, .int (nI k1)), (3, .ref qn), (6, .ref yd), (5, .int (nI k1)), (2, .ref ta), (1, .ref sb)] := hl
              have hP := zz_pickP (pre := [(sb, .inr (13, [.ref x19, .int 0, .int w20, .int (nI w21.length)])), (x19, .inl (cB, w22, .inl w23)), (qn, .inr (5, [.ref yd, .int (oI (wnum qd)), .ref p2]))]) (fz := (w24 ++ (u11 ++ (nz1 ++ fz)))) (wc := [(sb, .inr (13, [.ref x19, .int 0, .int w20, .int (nI w21.length)])), (x19, .inl (cB, w22, .inl w23)), (qn, .inr (5, [.ref yd, .int (oI (wnum qd)), .ref p2]))]) hP [0, 1, 2] rfl
              have hD := zz_pickD (pre := [(sb, .inr (13, [.ref x19, .int 0, .int w20, .int (nI w21.length)])), (x19, .inl (cB, w22, .inl w23)), (qn, .inr (5, [.ref yd, .int (oI (wnum qd)), .ref p2]))]) (fz := (w24 ++ (u11 ++ (nz1 ++ fz)))) (wc := [(sb, .inr (13, [.ref x19, .int 0, .int w20, .int (nI w21.length)])), (x19, .inl (cB, w22, .inl w23)), (qn, .inr (5, [.ref yd, .int (oI (wnum qd)), .ref p2]))]) hD [0, 1, 2] (by decide) rfl
              have hP : va_P (dC, dI) vwCl ([(sb, .inr (13, [.ref x19, .int 0, .int w20, .int (nI w21.length)])), (x19, .inl (cB, w22, .inl w23))] ++ ([(qn, .inr (5, [.ref yd, .int (oI (wnum qd)), .ref p2]))] ++ (w24 ++ (u11 ++ (nz1 ++ fz))))) _ := hP
              have hD : va_D A ([(sb, .inr (13, [.ref x19, .int 0, .int w20, .int (nI w21.length)])), (x19, .inl (cB, w22, .inl w23))] ++ ([(qn, .inr (5, [.ref yd, .int (oI (wnum qd)), .ref p2]))] ++ (w24 ++ (u11 ++ (nz1 ++ fz))))) := hD
              have hP := zz_permP (pre := [(sb, .inr (13, [.ref x19, .int 0, .int w20, .int (nI w21.length)])), (x19, .inl (cB, w22, .inl w23))]) (t1 := ([(qn, .inr (5, [.ref yd, .int (oI (wnum qd)), .ref p2]))] ++ (w24 ++ (u11 ++ (nz1 ++ fz))))) (t2 := (([(qn, .inr (5, [.ref yd, .int (oI (wnum qd)), .ref p2]))] ++ (w24 ++ (u11 ++ nz1))) ++ fz)) hP (pm4 _ _ _ _ _)
              have hD := zz_permD (pre := [(sb, .inr (13, [.ref x19, .int 0, .int w20, .int (nI w21.length)])), (x19, .inl (cB, w22, .inl w23))]) (t1 := ([(qn, .inr (5, [.ref yd, .int (oI (wnum qd)), .ref p2]))] ++ (w24 ++ (u11 ++ (nz1 ++ fz))))) (t2 := (([(qn, .inr (5, [.ref yd, .int (oI (wnum qd)), .ref p2]))] ++ (w24 ++ (u11 ++ nz1))) ++ fz)) hD (pm4 _ _ _ _ _)
              have hgr : ∀ q ∈ (nz1 ++ fz), q ∈ (([(qn, .inr (5, [.ref yd, .int (oI (wnum qd)), .ref p2]))] ++ (w24 ++ (u11 ++ nz1))) ++ fz) := fun q hq => by rcases List.mem_append.mp hq with h | h; exact List.mem_append_left _ (List.mem_append_right _ (List.mem_append_right _ (List.mem_append_right _ h))); exact List.mem_append_right _ h
              have hgr2 : ∀ q ∈ (w24 ++ (u11 ++ (nz1 ++ fz))), q ∈ (([(qn, .inr (5, [.ref yd, .int (oI (wnum qd)), .ref p2]))] ++ (w24 ++ (u11 ++ nz1))) ++ fz) := fun q hq => by simp only [List.mem_append] at hq ⊢; rcases hq with h | h | h | h; exact Or.inl (Or.inr (Or.inl h)); exact Or.inl (Or.inr (Or.inr (Or.inl h))); exact Or.inl (Or.inr (Or.inr (Or.inr h))); exact Or.inr h
              have hpp : ptr (tt.drop k1) = some (qd :: ss1) := by rw [hds, ptr_step hs47 hR, hdq, hi4]
              refine lv_iinc (k := 3) (v := ((nI k1) + Int32.ofInt (-1))) hx hb d_PT_of_96 hl rfl rfl (by decide) rfl (fun ls hl => ?_)
              have hl : lv_has ls 7 [(5, .int ((nI k1) + Int32.ofInt (-1))), (4, .int (nI k1)), (3, .ref qn), (6, .ref yd), (2, .ref ta), (1, .ref sb)] := hl
              rw [show nI k1 + Int32.ofInt (-1) = nI k1 - 1 from dec1 _] at hl
              refine lv_goto (tgt := 42) hx hb d_PT_of_99 rfl ?_
              refine W.widen (k := (1 + 5 * (tt.length - k1))) (n := (3 + 331 * (tt.length - k1))) (by omega) (by omega) ?_
              exact ih (k1) (by omega) k1 k1 qn (qd :: ss1) ([(qn, .inr (5, [.ref yd, .int (oI (wnum qd)), .ref p2]))] ++ (w24 ++ (u11 ++ nz1))) x19 w20 w22 w23 w21 H locs ls rfl (Nat.le_refl _) (⟨yd, p2, List.mem_append_left _ (List.mem_append_left _ List.mem_cons_self), hyd.mono hgr2, hcq, hi2.mono hgr⟩) (hB2) (hpp) (fun q h7 h8 => absurd h8 (by omega)) (Or.inr h3) (⟨by omega, by omega⟩) (lv_sub hl [0, 1, 2, 4, 5] rfl) (zz_pickP (pre := [(sb, .inr (13, [.ref x19, .int 0, .int w20, .int (nI w21.length)])), (x19, .inl (cB, w22, .inl w23))]) (fz := (([(qn, .inr (5, [.ref yd, .int (oI (wnum qd)), .ref p2]))] ++ (w24 ++ (u11 ++ nz1))) ++ fz)) (wc := [(sb, .inr (13, [.ref x19, .int 0, .int w20, .int (nI w21.length)])), (x19, .inl (cB, w22, .inl w23))]) hP [0, 1] rfl) (zz_pickD (pre := [(sb, .inr (13, [.ref x19, .int 0, .int w20, .int (nI w21.length)])), (x19, .inl (cB, w22, .inl w23))]) (fz := (([(qn, .inr (5, [.ref yd, .int (oI (wnum qd)), .ref p2]))] ++ (w24 ++ (u11 ++ nz1))) ++ fz)) (wc := [(sb, .inr (13, [.ref x19, .int 0, .int w20, .int (nI w21.length)])), (x19, .inl (cB, w22, .inl w23))]) hD [0, 1] (by decide) rfl) hS
    refine W.widen (k := (1 + 5 * (tt.length - tt.length))) (n := (3 + 331 * (tt.length - tt.length))) (by omega) (by omega) ?_
    exact hloop _ tt.length tt.length q0 ([] : List (List Nat)) ([(q0, .inr (5, [.ref (aK 0), .int (oI (wnum ([] : List Nat))), .null]))]) bv ml cap g tx _ _ ls rfl (Nat.le_refl _) (⟨_, _, List.mem_append_left _ List.mem_cons_self⟩) (hB) (by rw [List.drop_eq_nil_of_le (Nat.le_refl _)]; rfl) (fun q h7 h8 => absurd h8 (by omega)) (Or.inl rfl) (⟨Nat.le_refl _, hl9⟩) (lv_sub hl [0, 1, 2, 3, 5] rfl) (zz_pickP (pre := [(sb, .inr (13, [.ref bv, .int 0, .int ml, .int (nI tx.length)])), (bv, .inl (cB, cap, .inl g))]) (fz := ([(q0, .inr (5, [.ref (aK 0), .int (oI (wnum ([] : List Nat))), .null]))] ++ fz)) (wc := [(sb, .inr (13, [.ref bv, .int 0, .int ml, .int (nI tx.length)])), (bv, .inl (cB, cap, .inl g))]) hP [0, 1] rfl) (zz_pickD (pre := [(sb, .inr (13, [.ref bv, .int 0, .int ml, .int (nI tx.length)])), (bv, .inl (cB, cap, .inl g))]) (fz := ([(q0, .inr (5, [.ref (aK 0), .int (oI (wnum ([] : List Nat))), .null]))] ++ fz)) (wc := [(sb, .inr (13, [.ref bv, .int 0, .int ml, .int (nI tx.length)])), (bv, .inl (cB, cap, .inl g))]) hD [0, 1] (by decide) rfl) hS
  · have h1 : ¬ kk = 4 := fun h => h1 ((hhd.kind.2.2.1).mpr h)
    refine lv_null hx hb d_PT_of_12 ?_
    have hP9 := zz_pickP (pre := [(sb, .inr (13, [.ref bv, .int 0, .int ml, .int (nI tx.length)])), (bv, .inl (cB, cap, .inl g))]) (fz := fz) (wc := [(sb, .inr (13, [.ref bv, .int 0, .int ml, .int (nI tx.length)])), (bv, .inl (cB, cap, .inl g))]) hP [0, 1] rfl
    have hD9 := zz_pickD (pre := [(sb, .inr (13, [.ref bv, .int 0, .int ml, .int (nI tx.length)])), (bv, .inl (cB, cap, .inl g))]) (fz := fz) (wc := [(sb, .inr (13, [.ref bv, .int 0, .int ml, .int (nI tx.length)])), (bv, .inl (cB, cap, .inl g))]) hD [0, 1] (by decide) rfl
    have hK9 := hK.sub (tys' := [(cB, .byte)]) [0] rfl
    rw [hQ]
    refine W.widen (k := (1 + 5 * (txR rows).length)) (n := (3 + 331 * (txR rows).length)) ((by show 0 ≤ (1 + 5 * (txR rows).length); omega)) ((by show 0 ≤ (3 + 331 * (txR rows).length); omega)) ?_
    exact W.aret (v := .null) hx hb hr (Or.inl ⟨_, rfl⟩) (Or.inl rfl) (fun t ht hW => ⟨⟨none, (ml, tx, cap, g, []), rfl, ⟨hB, Or.inl ⟨rfl, Or.inl (fun h => h1 (hhk.symm.trans h))⟩⟩, ⟨bv, by rw [ht]; exact hP9, va_K.moved hW.alike hK9, hD9⟩⟩, hS.F ht⟩) hS.2.2 d_PT_of_13
