/-- the letters of all texts -/
def tln (rows : List Row) : Nat := (rows.map (fun q => q.2.2.2.1.length)).sum
theorem tln_app (a b : List Row) : tln (a ++ b) = tln a + tln b := by simp only [tln, List.map_append, List.sum_append]
theorem tln_lift (n : Nat) (r : List Row) : tln (lift n r) = tln r := by
  unfold tln lift; rw [List.map_map]; rfl
theorem tln_setNm (nm : List Nat) (r : List Row) : tln (setNm nm r) = tln r := by cases r <;> rfl
theorem tln_txt (r : List Row) : (txR r).length ≤ tln r := by
  cases r with
  | nil => exact Nat.zero_le _
  | cons q r => show q.2.2.2.1.length ≤ q.2.2.2.1.length + tln r; omega
theorem tln_kid {d : Nat} {rows : List Row} {t : Nat} (h : WR (d + 1) rows) (ht : t < (ksR rows).length) : tln ((ksR rows).getD t []) ≤ tln rows := by
  obtain ⟨q, A, B, e, _⟩ := wr_around h ht
  have e2 : tln rows = q.2.2.2.1.length + (tln A + (tln ((ksR rows).getD t []) + tln B)) := by
    conv => lhs; rw [e]
    show q.2.2.2.1.length + tln (A ++ _) = _
    rw [tln_app, tln_app, tln_setNm, tln_lift]
  omega
theorem tln_mb {d : Nat} {rows w : List Row} {s : List Nat} (h : WR (d + 1) rows) (hm : mbR rows s = some w) : (txR w).length ≤ tln rows := by
  obtain ⟨t, ht, rfl⟩ := Option.map_eq_some_iff.mp hm
  have htl : t < (ksR rows).length := by
    unfold mpl at ht
    split at ht
    · rw [← ksN_len]; exact (nix_lt ht).1
    · cases ht
  exact Nat.le_trans (tln_txt _) (tln_kid h htl)
theorem lit_len : ∀ i, i < 16 → (LTx.getD i []).length ≤ 160 := by decide +kernel
theorem TX.le160 {cB : ClassId} {aK : Nat → Nat} {tl : va_W} {a : Nat} {tx : List Nat} (h : TX cB aK tl a tx) : tx.length ≤ 160 := by
  rcases h with ⟨_, _, _, _, _, _, h⟩ | ⟨i, hi, _, rfl⟩
  · exact h
  · exact lit_len i hi
theorem VT.txlen {cB cO : ClassId} {em : Nat} {aK : Nat → Nat} {d : Nat} {tl : va_W} {a : Nat} {nn : List Nat} {rows : List Row} (h : VT cB cO em aK (d + 1) tl a nn rows) : (txR rows).length ≤ 160 := by
  obtain ⟨kd, tx, nu, nm, pa, dp, cn, tt, kk, num, rt, xs, ns, hc, htx, hnm, hal, hhd, hnl, hrl, hk5, hvl, hhk, hns, hdp, hcn, hrw, h160⟩ := h.opn
  have h1 := htx.le160
  have e : txR rows = rt := by rw [hrw]; rfl
  rw [e]
  rcases hhd with ⟨_, _, _, _, h, _⟩ | ⟨_, _, _, h, _⟩ | ⟨_, _, h, _⟩ | ⟨_, _, _, _, h, _⟩ | ⟨_, _, _, _, h, _⟩
  · rw [h]; exact Nat.zero_le _
  · rw [h]; exact Nat.zero_le _
  · rw [← h]; exact h1
  · rw [h]; exact Nat.zero_le _
  · rw [h]; exact Nat.zero_le _
theorem opP_none {w : List Row} (h : ¬ hdK w = 4 ∨ ptr (txR w) = none) : opP (some w) = none := by
  unfold opP
  simp only []
  split
  · exact h.resolve_left (fun h9 => h9 ‹_›)
  · rfl
theorem opP_some {w : List Row} {s : List (List Nat)} (h4 : hdK w = 4) (h : ptr (txR w) = some s) : opP (some w) = some s := by
  unfold opP
  simp only []
  rw [if_pos h4]; exact h
theorem kI_m1 {k : Nat} (h : kI k = -1) (hk : k ≤ 6) : k = 0 := by
  have : ∀ k, k ≤ 6 → kI k = -1 → k = 0 := by decide +kernel
  exact this k hk h
set_option maxHeartbeats 1000000 in
set_option maxRecDepth 100000 in
/-- Operation.of(part, builder) -/
theorem k_OP_of (l : Launch) (dC : Nat → ClassId) (dI : Nat → Nat → Nat) (sz : Nat) (a : Nat) (d : Nat) (nn : List Nat) (rows : List Row) (sb : Nat) (bv : Nat) (ml : Int32) (cB : ClassId) (g : Nat → Int32) (cap : Nat) (tx : List Nat) (cO : ClassId) (em : Nat) (aK : Nat → Nat) (aV : Nat → Nat) (fz : va_W) (hv : VT cB cO em aK (d + 1) fz a nn rows) (hB : Bld tx cap g) (hd : d ≤ 12) : Met l y_OP_of ws_OP_of ({ frames := 8, cells := (3 + 10 * tln rows), slots := (10 + 662 * tln rows), locals := 201 }) (va_Pc [.ref a, .ref sb] (fun U => U.heap.size = sz ∧ va_P (dC, dI) vwCl ([(sb, .inr (13, [.ref bv, .int 0, .int ml, .int (nI tx.length)])), (bv, .inl (cB, cap, .inl g))] ++ fz) U.heap ∧ va_K (dC, dI) vwCl [(cB, .byte), (cO, .object "java/lang/Object")] U ∧ va_D (fun _ => True) ([(sb, .inr (13, [.ref bv, .int 0, .int ml, .int (nI tx.length)])), (bv, .inl (cB, cap, .inl g))] ++ fz) ∧ EX em aK aV (va_A ([(sb, .inr (13, [.ref bv, .int 0, .int ml, .int (nI tx.length)])), (bv, .inl (cB, cap, .inl g))] ++ fz) sz) U U.heap)) (va_Qq (fun (r : Option Nat) (u : Int32 × List Nat × Nat × (Nat → Int32) × va_W) => Bld u.2.1 u.2.2.1 u.2.2.2.1 ∧ ((r = none ∧ opR rows = none) ∨ ∃ y8 o8, r = some y8 ∧ opR rows = some o8 ∧ OPz cB cO em aK (u.2.2.2.2 ++ fz) o8 y8)) (fun u t => ∃ (bv9 : Nat), va_P (dC, dI) vwCl ([(sb, .inr (13, [.ref bv9, .int 0, .int u.1, .int (nI u.2.1.length)])), (bv9, .inl (cB, u.2.2.1, .inl u.2.2.2.1))] ++ (u.2.2.2.2 ++ fz)) t.heap ∧ va_K (dC, dI) vwCl [(cB, .byte), (cO, .object "java/lang/Object")] t ∧ va_D (va_A ([(sb, .inr (13, [.ref bv, .int 0, .int ml, .int (nI tx.length)])), (bv, .inl (cB, cap, .inl g))] ++ fz) sz) ([(sb, .inr (13, [.ref bv9, .int 0, .int u.1, .int (nI u.2.1.length)])), (bv9, .inl (cB, u.2.2.1, .inl u.2.2.2.1))] ++ (u.2.2.2.2 ++ fz))) (va_A ([(sb, .inr (13, [.ref bv, .int 0, .int ml, .int (nI tx.length)])), (bv, .inl (cB, cap, .inl g))] ++ fz) sz)) (3 + 10 * tln rows) (10 + 662 * tln rows) (va_A ([(sb, .inr (13, [.ref bv, .int 0, .int ml, .int (nI tx.length)])), (bv, .inl (cB, cap, .inl g))] ++ fz) sz) := by
  refine Met.ofW (cc := c_OP_of) (maxL := 5) (ret := (some (.object "PatchStore$Operation"))) (by decide) rfl ?_
  intro p e s m args below meth c s₁ B hml hv
  obtain ⟨hargs, hsz, hP, hK, hD0, hE⟩ := hv
  rw [show entryFrame m args 5 = entryFrame m ([.ref a, .ref sb]).toArray 5 by rw [hargs]]
  have hx := B.exec
  have hb := B.bytes
  have hr := B.returns
  have hts := atoms_spec (ws := ws_OP_of) B.pre
  have htb := fun w (h : w ∈ TBL) => hts w (List.mem_cons_of_mem _ h)
  have hown : s.vm.findClass R_OP = some m.cls := findClass_of_methodNamed B.named
  have hlocks := B.notSynchronized
  subst hsz
  have hD := hD0.self (sz := s.heap.size)
  generalize hAe : va_A ([(sb, .inr (13, [.ref bv, .int 0, .int ml, .int (nI tx.length)])), (bv, .inl (cB, cap, .inl g))] ++ fz) s.heap.size = A at hD hE ⊢
  have hA : ∀ q : Nat, s.heap.size ≤ q → A q := fun q h => by rw [← hAe]; exact Or.inr h
  have hS : va_S A s.heap s.heap [] := va_S.rf
  have hP : va_P (dC, dI) vwCl ([(sb, .inr (13, [.ref bv, .int 0, .int ml, .int (nI tx.length)])), (bv, .inl (cB, cap, .inl g))] ++ fz) s.heap := hP
  have hl := lv_entry ([.ref a, .ref sb]) (n := 5) (Nat.le_of_ble_eq_true rfl)
  rw [lg_entry_eq]
  generalize (lg_sl ([.ref a, .ref sb]) ++ List.replicate (5 - (lg_sl ([.ref a, .ref sb])).length) Slot.unset).toArray = ls at hl ⊢
  have hl : lv_has ls 5 [(0, .ref a), (1, .ref sb)] := hl
  refine zz_nQ (fun Q hQ => ?_)
  have hwr := hv.wr
  have hjoinK : ∀  (H : Heap) (locs : List Loc) (ls : Array Slot), lv_has ls 5 [(0, .ref a), (1, .ref sb)] → va_P (dC, dI) vwCl ([(sb, .inr (13, [.ref bv, .int 0, .int ml, .int (nI tx.length)])), (bv, .inl (cB, cap, .inl g))] ++ fz) H → va_D A ([(sb, .inr (13, [.ref bv, .int 0, .int ml, .int (nI tx.length)])), (bv, .inl (cB, cap, .inl g))] ++ fz) → va_S A s.heap H locs → W p l e (headSpec ws_OP_of ({ frames := 8, cells := (3 + 10 * tln rows), slots := (10 + 662 * tln rows), locals := 201 })).room s m args below meth c H locs 0 0 Q (F0 m 9 ls [.int (kI (opK (mbR rows (LTx.getD 5 []))))]) := by
    intro  H locs ls  hl hP hD hS
    refine lv_istore_n hx hb d_OP_of_9 rfl hl (by decide) rfl (fun ls hl => ?_)
    have hl : lv_has ls 5 [(2, .int (kI (opK (mbR rows (LTx.getD 5 []))))), (0, .ref a), (1, .ref sb)] := hl
    refine lv_aload_n hx hb d_OP_of_10 rfl (lv_at hl 1 rfl) ?_
    have hkle := opK_le (mbR rows (LTx.getD 5 []))
    refine va_ldcS hx hb hown (lr_13 hE) d_OP_of_11 ?_
    have hli12 : TX cB aK fz (aK 12) (LTx.getD 12 []) := Or.inr ⟨12, by decide, rfl, rfl⟩
    have hPc := zz_pickP (pre := [(sb, .inr (13, [.ref bv, .int 0, .int ml, .int (nI tx.length)])), (bv, .inl (cB, cap, .inl g))]) (fz := fz) (wc := []) hP [] rfl
    have hDc := zz_pickD (pre := [(sb, .inr (13, [.ref bv, .int 0, .int ml, .int (nI tx.length)])), (bv, .inl (cB, cap, .inl g))]) (fz := fz) (wc := []) hD [] (by decide) rfl
    have hFc := zz_free (pre := [(sb, .inr (13, [.ref bv, .int 0, .int ml, .int (nI tx.length)])), (bv, .inl (cB, cap, .inl g))]) (fz := fz) (wc := []) hD hS hA [] rfl
    have hKc := hK.sub (tys' := [(cB, .byte), (cO, .object "java/lang/Object")]) [0, 1] rfl
    refine va_callq (va_runV (As := [.ref (aK 12)]) (rest := []) ⟨hx, hb, hml, hown, htb⟩ (k_VA_member l dC dI _ a d nn rows (aK 12) (LTx.getD 12 []) cB cO em aK aV fz hv hli12) (cwV 1 htb (g_V (fun _ h => h) m_593 m_590 m_591 m_592 m_18) rfl rfl rfl (by decide +kernel) ⟨Nat.le_of_ble_eq_true rfl, Nat.le_of_ble_eq_true rfl⟩) ⟨fun a U g mk q => by obtain ⟨q0, q1, qP, qK, qD, z0⟩ := q; exact ⟨q0, q1, qP, va_K.moved (u := U) (U := U.calling g mk a) (Vm.Alike.refl U.vm) qK, qD, EX.same (U := U) (U' := U.calling g mk a) rfl z0⟩, zz_recv hK hP (ci := 3) rfl (List.mem_append_right _ (hv).vin.choose_spec), fun U hU hW => ⟨rfl, by rw [hU], by rw [hU]; exact hPc, va_K.moved hW.alike hKc, hDc.weaken (fun _ _ _ _ => trivial), by rw [hU]; exact EX.warm hW ((hE.kept (fun a h1 h2 => hS.2.1 a h1 h2)).narrow hFc)⟩⟩ rfl rfl hl.1 rfl (lv_room (Nat.le_of_ble_eq_true rfl)) d_OP_of_13 ⟨(by show 0 ≤ (3 + 10 * tln rows); omega), (by show 0 ≤ (10 + 662 * tln rows); omega)⟩) hS (fun q _ h => hFc q h) hFc (fun r2 u1 t H1 locs ht hvm hw3 hB hz1 hk1 hS => ?_)
    obtain ⟨hP1, hK1, hD1⟩ := hB
    rw [ht] at hP1
    have hK1 := va_K.moved hvm.symm hK1
    have hw3 : (r2 = none ∧ mpl rows (LTx.getD 12 []) = none) ∨ ∃ t8 y8, r2 = some y8 ∧ mpl rows (LTx.getD 12 []) = some t8 ∧ t8 < (ksR rows).length ∧ VT cB cO em aK d fz y8 (LTx.getD 12 []) ((ksR rows).getD t8 []) := hw3
    obtain ⟨hP, hD⟩ := zz_join (pre := [(sb, .inr (13, [.ref bv, .int 0, .int ml, .int (nI tx.length)])), (bv, .inl (cB, cap, .inl g))]) (fz := fz) (wc := []) (wr := [(sb, .inr (13, [.ref bv, .int 0, .int ml, .int (nI tx.length)])), (bv, .inl (cB, cap, .inl g))]) (w1 := ([] ++ fz)) hP hD [] [0, 1] rfl rfl (by decide) (by decide) hk1 hFc hP1 hD1
    have hK := (hK.sub (tys' := []) [] rfl).app hK1
    generalize H1 = H at hP hS ⊢
    have hP : va_P (dC, dI) vwCl ([(sb, .inr (13, [.ref bv, .int 0, .int ml, .int (nI tx.length)])), (bv, .inl (cB, cap, .inl g))] ++ fz) H := hP
    have hD : va_D A ([(sb, .inr (13, [.ref bv, .int 0, .int ml, .int (nI tx.length)])), (bv, .inl (cB, cap, .inl g))] ++ fz) := hD
    have hK : va_K (dC, dI) vwCl [(cB, .byte), (cO, .object "java/lang/Object")] s := hK
    obtain ⟨rfl, hmp⟩ | ⟨t12, y12, rfl, hmp, htl12, hvm12⟩ := hw3
    · refine W.eq (g2 := F0 m 16 ls [.null]) rfl ?_
      have hmb12 : mbR rows (LTx.getD 12 []) = none := by rw [mbR, hmp]; rfl
      refine lv_aload_n hx hb d_OP_of_16 rfl (lv_at hl 2 rfl) ?_
      have hPc := hP.sub (ws' := []) [] rfl
      have hDc := hD.sub (ws' := []) [] (by decide) rfl
      have hFc := va_free (wc := []) hD hS hA [] rfl
      have hKc := hK.sub (tys' := []) [] rfl
      refine va_callq (va_runS (As := [.null, .ref sb]) (rest := []) ⟨hx, hb, hml, hown, htb⟩ (k_PT_ofN l dC dI _ sb bv ml cB g cap tx ) (va_cwS 2 htb (g_S (fun _ h => h) m_612 m_610 m_611 m_21) rfl rfl rfl (by decide +kernel) ⟨Nat.le_of_ble_eq_true rfl, Nat.le_of_ble_eq_true rfl⟩) ⟨fun a U g mk q => by obtain ⟨q0, q1, qP, qK, qD⟩ := q; exact ⟨q0, q1, qP, va_K.moved (u := U) (U := U.calling g mk a) (Vm.Alike.refl U.vm) qK, qD⟩, fun U hU hW => ⟨rfl, by rw [hU], by rw [hU]; exact hPc, va_K.moved hW.alike hKc, hDc.weaken (fun _ _ _ _ => trivial)⟩⟩ rfl rfl hl.1 rfl (lv_room (Nat.le_of_ble_eq_true rfl)) d_OP_of_17 ⟨(by show 0 ≤ (3 + 10 * tln rows); omega), (by show 0 ≤ (10 + 662 * tln rows); omega)⟩) hS (fun q _ h => hFc q h) hFc (fun r6 u5 t H1 locs ht hvm hw7 hB hz1 hk1 hS => ?_)
      obtain ⟨hP1, hK1, hD1⟩ := hB
      rw [ht] at hP1
      have hK1 := va_K.moved hvm.symm hK1
      have hw7 : r6 = none := hw7
      obtain ⟨hP, hD⟩ := zz_joinN (pre := [(sb, .inr (13, [.ref bv, .int 0, .int ml, .int (nI tx.length)])), (bv, .inl (cB, cap, .inl g))]) (fz := fz) (wc := []) (wr := [(sb, .inr (13, [.ref bv, .int 0, .int ml, .int (nI tx.length)])), (bv, .inl (cB, cap, .inl g))]) (w1 := []) hP hD [] [0, 1] rfl rfl (by decide) (by decide) hk1 hFc hP1 hD1
      have hK := (hK.sub (tys' := [(cB, .byte), (cO, .object "java/lang/Object")]) [0, 1] rfl).app hK1
      generalize H1 = H at hP hS ⊢
      have hP : va_P (dC, dI) vwCl ([(sb, .inr (13, [.ref bv, .int 0, .int ml, .int (nI tx.length)])), (bv, .inl (cB, cap, .inl g))] ++ fz) H := hP
      have hD : va_D A ([(sb, .inr (13, [.ref bv, .int 0, .int ml, .int (nI tx.length)])), (bv, .inl (cB, cap, .inl g))] ++ fz) := hD
      have hK : va_K (dC, dI) vwCl [(cB, .byte), (cO, .object "java/lang/Object")] s := hK
      obtain rfl := hw7
      refine W.eq (g2 := F0 m 20 ls [.null]) rfl ?_
      refine lv_astore_nN hx hb d_OP_of_20 rfl hl (by decide) rfl (fun ls hl => ?_)
      have hl : lv_has ls 5 [(3, .null), (2, .int (kI (opK (mbR rows (LTx.getD 5 []))))), (0, .ref a), (1, .ref sb)] := hl
      refine lv_iload_n hx hb d_OP_of_21 rfl (lv_at hl 1 rfl) ?_
      refine lv_iconst (v := (-1)) hx hb d_OP_of_22 (by decide) ?_
      refine lv_icmp_eq (tgt := 30) hx hb d_OP_of_23 rfl (fun h5 => ?_) (fun h5 => ?_)
      · refine lv_null hx hb d_OP_of_30 ?_
        have hP9 := zz_pickP (pre := [(sb, .inr (13, [.ref bv, .int 0, .int ml, .int (nI tx.length)])), (bv, .inl (cB, cap, .inl g))]) (fz := fz) (wc := [(sb, .inr (13, [.ref bv, .int 0, .int ml, .int (nI tx.length)])), (bv, .inl (cB, cap, .inl g))]) hP [0, 1] rfl
        have hD9 := zz_pickD (pre := [(sb, .inr (13, [.ref bv, .int 0, .int ml, .int (nI tx.length)])), (bv, .inl (cB, cap, .inl g))]) (fz := fz) (wc := [(sb, .inr (13, [.ref bv, .int 0, .int ml, .int (nI tx.length)])), (bv, .inl (cB, cap, .inl g))]) hD [0, 1] (by decide) rfl
        have hK9 := hK.sub (tys' := [(cB, .byte), (cO, .object "java/lang/Object")]) [0, 1] rfl
        rw [hQ]
        refine W.widen (k := (3 + 10 * tln rows)) (n := (10 + 662 * tln rows)) ((by show 0 ≤ (3 + 10 * tln rows); omega)) ((by show 0 ≤ (10 + 662 * tln rows); omega)) ?_
        exact W.aret (v := .null) hx hb hr (Or.inl ⟨_, rfl⟩) (Or.inl rfl) (fun t ht hW => ⟨⟨none, (ml, tx, cap, g, []), rfl, ⟨hB, Or.inl ⟨rfl, by rw [opR, hmb12]; rfl⟩⟩, ⟨bv, by rw [ht]; exact hP9, va_K.moved hW.alike hK9, hD9⟩⟩, hS.F ht⟩) hS.2.2 d_OP_of_31
      · refine lv_aload_nN hx hb d_OP_of_26 rfl (lv_at hl 0 rfl) ?_
        refine lv_ifnonnullN hx hb d_OP_of_27 ?_
        refine lv_null hx hb d_OP_of_30 ?_
        have hP9 := zz_pickP (pre := [(sb, .inr (13, [.ref bv, .int 0, .int ml, .int (nI tx.length)])), (bv, .inl (cB, cap, .inl g))]) (fz := fz) (wc := [(sb, .inr (13, [.ref bv, .int 0, .int ml, .int (nI tx.length)])), (bv, .inl (cB, cap, .inl g))]) hP [0, 1] rfl
        have hD9 := zz_pickD (pre := [(sb, .inr (13, [.ref bv, .int 0, .int ml, .int (nI tx.length)])), (bv, .inl (cB, cap, .inl g))]) (fz := fz) (wc := [(sb, .inr (13, [.ref bv, .int 0, .int ml, .int (nI tx.length)])), (bv, .inl (cB, cap, .inl g))]) hD [0, 1] (by decide) rfl
        have hK9 := hK.sub (tys' := [(cB, .byte), (cO, .object "java/lang/Object")]) [0, 1] rfl
        rw [hQ]
        refine W.widen (k := (3 + 10 * tln rows)) (n := (10 + 662 * tln rows)) ((by show 0 ≤ (3 + 10 * tln rows); omega)) ((by show 0 ≤ (10 + 662 * tln rows); omega)) ?_
        exact W.aret (v := .null) hx hb hr (Or.inl ⟨_, rfl⟩) (Or.inl rfl) (fun t ht hW => ⟨⟨none, (ml, tx, cap, g, []), rfl, ⟨hB, Or.inl ⟨rfl, by rw [opR, hmb12]; rfl⟩⟩, ⟨bv, by rw [ht]; exact hP9, va_K.moved hW.alike hK9, hD9⟩⟩, hS.F ht⟩) hS.2.2 d_OP_of_31
    · refine W.eq (g2 := F0 m 16 ls [.ref y12]) rfl ?_
      have hmb12 : mbR rows (LTx.getD 12 []) = some ((ksR rows).getD t12 []) := by rw [mbR, hmp]; rfl
      obtain ⟨d2, hd2⟩ := hvm12.succ
      have hv12 : VT cB cO em aK (d2 + 1) fz y12 (LTx.getD 12 []) ((ksR rows).getD t12 []) := hd2 ▸ hvm12
      have hln12 := tln_mb hwr hmb12
      refine lv_aload_n hx hb d_OP_of_16 rfl (lv_at hl 2 rfl) ?_
      have hPc := zz_pickP (pre := [(sb, .inr (13, [.ref bv, .int 0, .int ml, .int (nI tx.length)])), (bv, .inl (cB, cap, .inl g))]) (fz := fz) (wc := [(sb, .inr (13, [.ref bv, .int 0, .int ml, .int (nI tx.length)])), (bv, .inl (cB, cap, .inl g))]) hP [0, 1] rfl
      have hDc := zz_pickD (pre := [(sb, .inr (13, [.ref bv, .int 0, .int ml, .int (nI tx.length)])), (bv, .inl (cB, cap, .inl g))]) (fz := fz) (wc := [(sb, .inr (13, [.ref bv, .int 0, .int ml, .int (nI tx.length)])), (bv, .inl (cB, cap, .inl g))]) hD [0, 1] (by decide) rfl
      have hFc := zz_free (pre := [(sb, .inr (13, [.ref bv, .int 0, .int ml, .int (nI tx.length)])), (bv, .inl (cB, cap, .inl g))]) (fz := fz) (wc := [(sb, .inr (13, [.ref bv, .int 0, .int ml, .int (nI tx.length)])), (bv, .inl (cB, cap, .inl g))]) hD hS hA [0, 1] rfl
      have hKc := hK.sub (tys' := [(cB, .byte)]) [0] rfl
      refine va_callq (va_runS (As := [.ref y12, .ref sb]) (rest := []) ⟨hx, hb, hml, hown, htb⟩ (k_PT_of l dC dI _ y12 d2 (LTx.getD 12 []) ((ksR rows).getD t12 []) sb bv ml cB g cap tx cO em aK aV fz hv12 hB hv12.txlen) (va_cwS 2 htb (g_S (fun _ h => h) m_612 m_610 m_611 m_21) rfl rfl rfl (by decide +kernel) ⟨Nat.le_of_ble_eq_true rfl, Nat.le_of_ble_eq_true rfl⟩) ⟨fun a U g mk q => by obtain ⟨q0, q1, qP, qK, qD, z0⟩ := q; exact ⟨q0, q1, qP, va_K.moved (u := U) (U := U.calling g mk a) (Vm.Alike.refl U.vm) qK, qD, EX.same (U := U) (U' := U.calling g mk a) rfl z0⟩, fun U hU hW => ⟨rfl, by rw [hU], by rw [hU]; exact hPc, va_K.moved hW.alike hKc, hDc.weaken (fun _ _ _ _ => trivial), by rw [hU]; exact EX.warm hW ((hE.kept (fun a h1 h2 => hS.2.1 a h1 h2)).narrow hFc)⟩⟩ rfl rfl hl.1 rfl (lv_room (Nat.le_of_ble_eq_true rfl)) d_OP_of_17 ⟨(by show (0 + (1 + 5 * (txR ((ksR rows).getD t12 [])).length)) ≤ (3 + 10 * tln rows); omega), (by show (0 + (3 + 331 * (txR ((ksR rows).getD t12 [])).length)) ≤ (10 + 662 * tln rows); omega)⟩) hS (fun q _ h => hFc q h) hFc (fun r6 u5 t H1 locs ht hvm hw7 hB hz1 hk1 hS => ?_)
      obtain ⟨x9, hP1, hK1, hD1⟩ := hB
      rw [ht] at hP1
      have hK1 := va_K.moved hvm.symm hK1
      obtain ⟨w10, w11, w12, w13, w14⟩ := u5
      have hw7 : Bld w11 w12 w13 ∧ ((r6 = none ∧ (¬ hdK ((ksR rows).getD t12 []) = 4 ∨ ptr (txR ((ksR rows).getD t12 [])) = none)) ∨ ∃ y8 s8, r6 = some y8 ∧ hdK ((ksR rows).getD t12 []) = 4 ∧ ptr (txR ((ksR rows).getD t12 [])) = some s8 ∧ PTz cB aK (w14 ++ fz) s8 y8) := hw7
      obtain ⟨hP, hD⟩ := zz_join (pre := [(sb, .inr (13, [.ref bv, .int 0, .int ml, .int (nI tx.length)])), (bv, .inl (cB, cap, .inl g))]) (fz := fz) (wc := [(sb, .inr (13, [.ref bv, .int 0, .int ml, .int (nI tx.length)])), (bv, .inl (cB, cap, .inl g))]) (wr := []) (w1 := ([(sb, .inr (13, [.ref x9, .int 0, .int w10, .int (nI w11.length)])), (x9, .inl (cB, w12, .inl w13))] ++ (w14 ++ fz))) hP hD [0, 1] [] rfl rfl (by decide) (by decide) hk1 hFc hP1 hD1
      have hK := (hK.sub (tys' := [(cO, .object "java/lang/Object")]) [1] rfl).app hK1
      generalize H1 = H at hP hS ⊢
      have hP : va_P (dC, dI) vwCl ([(sb, .inr (13, [.ref x9, .int 0, .int w10, .int (nI w11.length)])), (x9, .inl (cB, w12, .inl w13))] ++ (w14 ++ fz)) H := hP
      have hD : va_D A ([(sb, .inr (13, [.ref x9, .int 0, .int w10, .int (nI w11.length)])), (x9, .inl (cB, w12, .inl w13))] ++ (w14 ++ fz)) := hD
      have hK : va_K (dC, dI) vwCl [(cO, .object "java/lang/Object"), (cB, .byte)] s := hK
      obtain ⟨hB2, ⟨rfl, hpb⟩ | ⟨yp, sp, rfl, hp4, hps, hpp⟩⟩ := hw7
      · refine W.eq (g2 := F0 m 20 ls [.null]) rfl ?_
        refine lv_astore_nN hx hb d_OP_of_20 rfl hl (by decide) rfl (fun ls hl => ?_)
        have hl : lv_has ls 5 [(3, .null), (2, .int (kI (opK (mbR rows (LTx.getD 5 []))))), (0, .ref a), (1, .ref sb)] := hl
        refine lv_iload_n hx hb d_OP_of_21 rfl (lv_at hl 1 rfl) ?_
        refine lv_iconst (v := (-1)) hx hb d_OP_of_22 (by decide) ?_
        refine lv_icmp_eq (tgt := 30) hx hb d_OP_of_23 rfl (fun h5 => ?_) (fun h5 => ?_)
        · refine lv_null hx hb d_OP_of_30 ?_
          have hP9 := zz_pickP (pre := [(sb, .inr (13, [.ref x9, .int 0, .int w10, .int (nI w11.length)])), (x9, .inl (cB, w12, .inl w13))]) (fz := (w14 ++ fz)) (wc := [(sb, .inr (13, [.ref x9, .int 0, .int w10, .int (nI w11.length)])), (x9, .inl (cB, w12, .inl w13))]) hP [0, 1] rfl
          have hD9 := zz_pickD (pre := [(sb, .inr (13, [.ref x9, .int 0, .int w10, .int (nI w11.length)])), (x9, .inl (cB, w12, .inl w13))]) (fz := (w14 ++ fz)) (wc := [(sb, .inr (13, [.ref x9, .int 0, .int w10, .int (nI w11.length)])), (x9, .inl (cB, w12, .inl w13))]) hD [0, 1] (by decide) rfl
          have hK9 := hK.sub (tys' := [(cB, .byte), (cO, .object "java/lang/Object")]) [1, 0] rfl
          rw [hQ]
          refine W.widen (k := (3 + 10 * tln rows)) (n := (10 + 662 * tln rows)) ((by show (0 + (1 + 5 * (txR ((ksR rows).getD t12 [])).length)) ≤ (3 + 10 * tln rows); omega)) ((by show (0 + (3 + 331 * (txR ((ksR rows).getD t12 [])).length)) ≤ (10 + 662 * tln rows); omega)) ?_
          exact W.aret (v := .null) hx hb hr (Or.inl ⟨_, rfl⟩) (Or.inl rfl) (fun t ht hW => ⟨⟨none, (w10, w11, w12, w13, w14), rfl, ⟨hB2, Or.inl ⟨rfl, by rw [opR, hmb12, opP_none hpb]; rfl⟩⟩, ⟨x9, by rw [ht]; exact hP9, va_K.moved hW.alike hK9, hD9⟩⟩, hS.F ht⟩) hS.2.2 d_OP_of_31
        · refine lv_aload_nN hx hb d_OP_of_26 rfl (lv_at hl 0 rfl) ?_
          refine lv_ifnonnullN hx hb d_OP_of_27 ?_
          refine lv_null hx hb d_OP_of_30 ?_
          have hP9 := zz_pickP (pre := [(sb, .inr (13, [.ref x9, .int 0, .int w10, .int (nI w11.length)])), (x9, .inl (cB, w12, .inl w13))]) (fz := (w14 ++ fz)) (wc := [(sb, .inr (13, [.ref x9, .int 0, .int w10, .int (nI w11.length)])), (x9, .inl (cB, w12, .inl w13))]) hP [0, 1] rfl
          have hD9 := zz_pickD (pre := [(sb, .inr (13, [.ref x9, .int 0, .int w10, .int (nI w11.length)])), (x9, .inl (cB, w12, .inl w13))]) (fz := (w14 ++ fz)) (wc := [(sb, .inr (13, [.ref x9, .int 0, .int w10, .int (nI w11.length)])), (x9, .inl (cB, w12, .inl w13))]) hD [0, 1] (by decide) rfl
          have hK9 := hK.sub (tys' := [(cB, .byte), (cO, .object "java/lang/Object")]) [1, 0] rfl
          rw [hQ]
          refine W.widen (k := (3 + 10 * tln rows)) (n := (10 + 662 * tln rows)) ((by show (0 + (1 + 5 * (txR ((ksR rows).getD t12 [])).length)) ≤ (3 + 10 * tln rows); omega)) ((by show (0 + (3 + 331 * (txR ((ksR rows).getD t12 [])).length)) ≤ (10 + 662 * tln rows); omega)) ?_
          exact W.aret (v := .null) hx hb hr (Or.inl ⟨_, rfl⟩) (Or.inl rfl) (fun t ht hW => ⟨⟨none, (w10, w11, w12, w13, w14), rfl, ⟨hB2, Or.inl ⟨rfl, by rw [opR, hmb12, opP_none hpb]; rfl⟩⟩, ⟨x9, by rw [ht]; exact hP9, va_K.moved hW.alike hK9, hD9⟩⟩, hS.F ht⟩) hS.2.2 d_OP_of_31
      · refine W.eq (g2 := F0 m 20 ls [.ref yp]) rfl ?_
        have hop : opR rows = if (opK (mbR rows (LTx.getD 5 []))) = 0 then none else if (opK (mbR rows (LTx.getD 5 []))) = 4 ∨ (opK (mbR rows (LTx.getD 5 []))) = 5 then (opP (mbR rows (LTx.getD 13 []))).map (fun f => ((opK (mbR rows (LTx.getD 5 []))), sp, f, [])) else if (opK (mbR rows (LTx.getD 5 []))) = 2 then some (2, sp, [], []) else (mbR rows (LTx.getD 14 [])).map (fun v => ((opK (mbR rows (LTx.getD 5 []))), sp, [], v)) := by rw [opR, hmb12, opP_some hp4 hps]; rfl
        refine lv_astore_n hx hb d_OP_of_20 rfl hl (by decide) rfl (fun ls hl => ?_)
        have hl : lv_has ls 5 [(3, .ref yp), (2, .int (kI (opK (mbR rows (LTx.getD 5 []))))), (0, .ref a), (1, .ref sb)] := hl
        refine lv_iload_n hx hb d_OP_of_21 rfl (lv_at hl 1 rfl) ?_
        refine lv_iconst (v := (-1)) hx hb d_OP_of_22 (by decide) ?_
        refine lv_icmp_eq (tgt := 30) hx hb d_OP_of_23 rfl (fun h5 => ?_) (fun h5 => ?_)
        · have h5 : (opK (mbR rows (LTx.getD 5 []))) = 0 := kI_m1 h5 hkle
          refine lv_null hx hb d_OP_of_30 ?_
          have hP9 := zz_pickP (pre := [(sb, .inr (13, [.ref x9, .int 0, .int w10, .int (nI w11.length)])), (x9, .inl (cB, w12, .inl w13))]) (fz := (w14 ++ fz)) (wc := [(sb, .inr (13, [.ref x9, .int 0, .int w10, .int (nI w11.length)])), (x9, .inl (cB, w12, .inl w13))]) hP [0, 1] rfl
          have hD9 := zz_pickD (pre := [(sb, .inr (13, [.ref x9, .int 0, .int w10, .int (nI w11.length)])), (x9, .inl (cB, w12, .inl w13))]) (fz := (w14 ++ fz)) (wc := [(sb, .inr (13, [.ref x9, .int 0, .int w10, .int (nI w11.length)])), (x9, .inl (cB, w12, .inl w13))]) hD [0, 1] (by decide) rfl
          have hK9 := hK.sub (tys' := [(cB, .byte), (cO, .object "java/lang/Object")]) [1, 0] rfl
          rw [hQ]
          refine W.widen (k := (3 + 10 * tln rows)) (n := (10 + 662 * tln rows)) ((by show (0 + (1 + 5 * (txR ((ksR rows).getD t12 [])).length)) ≤ (3 + 10 * tln rows); omega)) ((by show (0 + (3 + 331 * (txR ((ksR rows).getD t12 [])).length)) ≤ (10 + 662 * tln rows); omega)) ?_
          exact W.aret (v := .null) hx hb hr (Or.inl ⟨_, rfl⟩) (Or.inl rfl) (fun t ht hW => ⟨⟨none, (w10, w11, w12, w13, w14), rfl, ⟨hB2, Or.inl ⟨rfl, by rw [hop, if_pos h5]⟩⟩, ⟨x9, by rw [ht]; exact hP9, va_K.moved hW.alike hK9, hD9⟩⟩, hS.F ht⟩) hS.2.2 d_OP_of_31
        · have h5 : ¬ (opK (mbR rows (LTx.getD 5 []))) = 0 := fun h => h5 (by rw [h]; rfl)
          have hki : kI (opK (mbR rows (LTx.getD 5 []))) = nI (opK (mbR rows (LTx.getD 5 []))) := if_neg h5
          rw [hki] at hl
          have hl : lv_has ls 5 [(3, .ref yp), (2, .int (nI (opK (mbR rows (LTx.getD 5 []))))), (0, .ref a), (1, .ref sb)] := hl
          refine lv_aload_n hx hb d_OP_of_26 rfl (lv_at hl 0 rfl) ?_
          refine lv_ifnonnull (tgt := 32) hx hb d_OP_of_27 rfl ?_
          refine lv_iload_n hx hb d_OP_of_32 rfl (lv_at hl 1 rfl) ?_
          refine lv_iconst (v := 4) hx hb d_OP_of_33 (by decide) ?_
          have hg2 : ∀ q ∈ fz, q ∈ (w14 ++ fz) := fun q hq => List.mem_append_right _ hq
          have hv2 := hv.mono hg2
          refine lv_icmp_eq (tgt := 42) hx hb d_OP_of_34 rfl (fun h6 => ?_) (fun h6 => ?_)
          · have h6 : (opK (mbR rows (LTx.getD 5 []))) = 4 := (nI_eq (by omega) (by decide)).mp h6
            have h45 : (opK (mbR rows (LTx.getD 5 []))) = 4 ∨ (opK (mbR rows (LTx.getD 5 []))) = 5 := Or.inl h6
            rw [if_neg h5, if_pos h45] at hop
            refine lv_aload_n hx hb d_OP_of_42 rfl (lv_at hl 2 rfl) ?_
            refine va_ldcS hx hb hown (lr_17 hE) d_OP_of_43 ?_
            have hli13 : TX cB aK (w14 ++ fz) (aK 13) (LTx.getD 13 []) := Or.inr ⟨13, by decide, rfl, rfl⟩
            have hPc := zz_pickP (pre := [(sb, .inr (13, [.ref x9, .int 0, .int w10, .int (nI w11.length)])), (x9, .inl (cB, w12, .inl w13))]) (fz := (w14 ++ fz)) (wc := []) hP [] rfl
            have hDc := zz_pickD (pre := [(sb, .inr (13, [.ref x9, .int 0, .int w10, .int (nI w11.length)])), (x9, .inl (cB, w12, .inl w13))]) (fz := (w14 ++ fz)) (wc := []) hD [] (by decide) rfl
            have hFc := zz_free (pre := [(sb, .inr (13, [.ref x9, .int 0, .int w10, .int (nI w11.length)])), (x9, .inl (cB, w12, .inl w13))]) (fz := (w14 ++ fz)) (wc := []) hD hS hA [] rfl
            have hKc := hK.sub (tys' := [(cB, .byte), (cO, .object "java/lang/Object")]) [1, 0] rfl
            refine va_callq (va_runV (As := [.ref (aK 13)]) (rest := []) ⟨hx, hb, hml, hown, htb⟩ (k_VA_member l dC dI _ a d nn rows (aK 13) (LTx.getD 13 []) cB cO em aK aV (w14 ++ fz) hv2 hli13) (cwV 1 htb (g_V (fun _ h => h) m_593 m_590 m_591 m_592 m_18) rfl rfl rfl (by decide +kernel) ⟨Nat.le_of_ble_eq_true rfl, Nat.le_of_ble_eq_true rfl⟩) ⟨fun a U g mk q => by obtain ⟨q0, q1, qP, qK, qD, z0⟩ := q; exact ⟨q0, q1, qP, va_K.moved (u := U) (U := U.calling g mk a) (Vm.Alike.refl U.vm) qK, qD, EX.same (U := U) (U' := U.calling g mk a) rfl z0⟩, zz_recv hK hP (ci := 3) rfl (List.mem_append_right _ (hv2).vin.choose_spec), fun U hU hW => ⟨rfl, by rw [hU], by rw [hU]; exact hPc, va_K.moved hW.alike hKc, hDc.weaken (fun _ _ _ _ => trivial), by rw [hU]; exact EX.warm hW ((hE.kept (fun a h1 h2 => hS.2.1 a h1 h2)).narrow hFc)⟩⟩ rfl rfl hl.1 rfl (lv_room (Nat.le_of_ble_eq_true rfl)) d_OP_of_45 ⟨(by show (0 + (1 + 5 * (txR ((ksR rows).getD t12 [])).length)) ≤ (3 + 10 * tln rows); omega), (by show (0 + (3 + 331 * (txR ((ksR rows).getD t12 [])).length)) ≤ (10 + 662 * tln rows); omega)⟩) hS (fun q _ h => hFc q h) hFc (fun r16 u15 t H1 locs ht hvm hw17 hB hz1 hk1 hS => ?_)
            obtain ⟨hP1, hK1, hD1⟩ := hB
            rw [ht] at hP1
            have hK1 := va_K.moved hvm.symm hK1
            have hw17 : (r16 = none ∧ mpl rows (LTx.getD 13 []) = none) ∨ ∃ t8 y8, r16 = some y8 ∧ mpl rows (LTx.getD 13 []) = some t8 ∧ t8 < (ksR rows).length ∧ VT cB cO em aK d (w14 ++ fz) y8 (LTx.getD 13 []) ((ksR rows).getD t8 []) := hw17
            obtain ⟨hP, hD⟩ := zz_join (pre := [(sb, .inr (13, [.ref x9, .int 0, .int w10, .int (nI w11.length)])), (x9, .inl (cB, w12, .inl w13))]) (fz := (w14 ++ fz)) (wc := []) (wr := [(sb, .inr (13, [.ref x9, .int 0, .int w10, .int (nI w11.length)])), (x9, .inl (cB, w12, .inl w13))]) (w1 := ([] ++ (w14 ++ fz))) hP hD [] [0, 1] rfl rfl (by decide) (by decide) hk1 hFc hP1 hD1
            have hK := (hK.sub (tys' := []) [] rfl).app hK1
            generalize H1 = H at hP hS ⊢
            have hP : va_P (dC, dI) vwCl ([(sb, .inr (13, [.ref x9, .int 0, .int w10, .int (nI w11.length)])), (x9, .inl (cB, w12, .inl w13))] ++ (w14 ++ fz)) H := hP
            have hD : va_D A ([(sb, .inr (13, [.ref x9, .int 0, .int w10, .int (nI w11.length)])), (x9, .inl (cB, w12, .inl w13))] ++ (w14 ++ fz)) := hD
            have hK : va_K (dC, dI) vwCl [(cB, .byte), (cO, .object "java/lang/Object")] s := hK
            obtain ⟨rfl, hmp⟩ | ⟨t13, y13, rfl, hmp, htl13, hvm13⟩ := hw17
            · refine W.eq (g2 := F0 m 48 ls [.null]) rfl ?_
              have hmb13 : mbR rows (LTx.getD 13 []) = none := by rw [mbR, hmp]; rfl
              refine lv_aload_n hx hb d_OP_of_48 rfl (lv_at hl 3 rfl) ?_
              have hPc := hP.sub (ws' := []) [] rfl
              have hDc := hD.sub (ws' := []) [] (by decide) rfl
              have hFc := va_free (wc := []) hD hS hA [] rfl
              have hKc := hK.sub (tys' := []) [] rfl
              refine va_callq (va_runS (As := [.null, .ref sb]) (rest := []) ⟨hx, hb, hml, hown, htb⟩ (k_PT_ofN l dC dI _ sb x9 w10 cB w13 w12 w11 ) (va_cwS 2 htb (g_S (fun _ h => h) m_612 m_610 m_611 m_21) rfl rfl rfl (by decide +kernel) ⟨Nat.le_of_ble_eq_true rfl, Nat.le_of_ble_eq_true rfl⟩) ⟨fun a U g mk q => by obtain ⟨q0, q1, qP, qK, qD⟩ := q; exact ⟨q0, q1, qP, va_K.moved (u := U) (U := U.calling g mk a) (Vm.Alike.refl U.vm) qK, qD⟩, fun U hU hW => ⟨rfl, by rw [hU], by rw [hU]; exact hPc, va_K.moved hW.alike hKc, hDc.weaken (fun _ _ _ _ => trivial)⟩⟩ rfl rfl hl.1 rfl (lv_room (Nat.le_of_ble_eq_true rfl)) d_OP_of_49 ⟨(by show (0 + (1 + 5 * (txR ((ksR rows).getD t12 [])).length)) ≤ (3 + 10 * tln rows); omega), (by show (0 + (3 + 331 * (txR ((ksR rows).getD t12 [])).length)) ≤ (10 + 662 * tln rows); omega)⟩) hS (fun q _ h => hFc q h) hFc (fun r20 u19 t H1 locs ht hvm hw21 hB hz1 hk1 hS => ?_)
              obtain ⟨hP1, hK1, hD1⟩ := hB
              rw [ht] at hP1
              have hK1 := va_K.moved hvm.symm hK1
              have hw21 : r20 = none := hw21
              obtain ⟨hP, hD⟩ := zz_joinN (pre := [(sb, .inr (13, [.ref x9, .int 0, .int w10, .int (nI w11.length)])), (x9, .inl (cB, w12, .inl w13))]) (fz := (w14 ++ fz)) (wc := []) (wr := [(sb, .inr (13, [.ref x9, .int 0, .int w10, .int (nI w11.length)])), (x9, .inl (cB, w12, .inl w13))]) (w1 := []) hP hD [] [0, 1] rfl rfl (by decide) (by decide) hk1 hFc hP1 hD1
              have hK := (hK.sub (tys' := [(cB, .byte), (cO, .object "java/lang/Object")]) [0, 1] rfl).app hK1
              generalize H1 = H at hP hS ⊢
              have hP : va_P (dC, dI) vwCl ([(sb, .inr (13, [.ref x9, .int 0, .int w10, .int (nI w11.length)])), (x9, .inl (cB, w12, .inl w13))] ++ (w14 ++ fz)) H := hP
              have hD : va_D A ([(sb, .inr (13, [.ref x9, .int 0, .int w10, .int (nI w11.length)])), (x9, .inl (cB, w12, .inl w13))] ++ (w14 ++ fz)) := hD
              have hK : va_K (dC, dI) vwCl [(cB, .byte), (cO, .object "java/lang/Object")] s := hK
              obtain rfl := hw21
              refine W.eq (g2 := F0 m 52 ls [.null]) rfl ?_
              refine lv_astoreN hx hb d_OP_of_52 hl (by decide) rfl (fun ls hl => ?_)
              have hl : lv_has ls 5 [(4, .null), (3, .ref yp), (2, .int (nI (opK (mbR rows (LTx.getD 5 []))))), (0, .ref a), (1, .ref sb)] := hl
              refine lv_aloadN hx hb d_OP_of_54 (lv_at hl 0 rfl) ?_
              refine lv_ifnonnullN hx hb d_OP_of_56 ?_
              refine lv_null hx hb d_OP_of_59 ?_
              refine lv_goto (tgt := 75) hx hb d_OP_of_60 rfl ?_
              have hP9 := zz_pickP (pre := [(sb, .inr (13, [.ref x9, .int 0, .int w10, .int (nI w11.length)])), (x9, .inl (cB, w12, .inl w13))]) (fz := (w14 ++ fz)) (wc := [(sb, .inr (13, [.ref x9, .int 0, .int w10, .int (nI w11.length)])), (x9, .inl (cB, w12, .inl w13))]) hP [0, 1] rfl
              have hD9 := zz_pickD (pre := [(sb, .inr (13, [.ref x9, .int 0, .int w10, .int (nI w11.length)])), (x9, .inl (cB, w12, .inl w13))]) (fz := (w14 ++ fz)) (wc := [(sb, .inr (13, [.ref x9, .int 0, .int w10, .int (nI w11.length)])), (x9, .inl (cB, w12, .inl w13))]) hD [0, 1] (by decide) rfl
              have hK9 := hK.sub (tys' := [(cB, .byte), (cO, .object "java/lang/Object")]) [0, 1] rfl
              rw [hQ]
              refine W.widen (k := (3 + 10 * tln rows)) (n := (10 + 662 * tln rows)) ((by show (0 + (1 + 5 * (txR ((ksR rows).getD t12 [])).length)) ≤ (3 + 10 * tln rows); omega)) ((by show (0 + (3 + 331 * (txR ((ksR rows).getD t12 [])).length)) ≤ (10 + 662 * tln rows); omega)) ?_
              exact W.aret (v := .null) hx hb hr (Or.inl ⟨_, rfl⟩) (Or.inl rfl) (fun t ht hW => ⟨⟨none, (w10, w11, w12, w13, w14), rfl, ⟨hB2, Or.inl ⟨rfl, by rw [hop, hmb13]; rfl⟩⟩, ⟨x9, by rw [ht]; exact hP9, va_K.moved hW.alike hK9, hD9⟩⟩, hS.F ht⟩) hS.2.2 d_OP_of_75
            · refine W.eq (g2 := F0 m 48 ls [.ref y13]) rfl ?_
              have hmb13 : mbR rows (LTx.getD 13 []) = some ((ksR rows).getD t13 []) := by rw [mbR, hmp]; rfl
              obtain ⟨d3, hd3⟩ := hvm13.succ
              have hv13 : VT cB cO em aK (d3 + 1) (w14 ++ fz) y13 (LTx.getD 13 []) ((ksR rows).getD t13 []) := hd3 ▸ hvm13
              have hln13 := tln_mb hwr hmb13
              refine lv_aload_n hx hb d_OP_of_48 rfl (lv_at hl 3 rfl) ?_
              have hPc := zz_pickP (pre := [(sb, .inr (13, [.ref x9, .int 0, .int w10, .int (nI w11.length)])), (x9, .inl (cB, w12, .inl w13))]) (fz := (w14 ++ fz)) (wc := [(sb, .inr (13, [.ref x9, .int 0, .int w10, .int (nI w11.length)])), (x9, .inl (cB, w12, .inl w13))]) hP [0, 1] rfl
              have hDc := zz_pickD (pre := [(sb, .inr (13, [.ref x9, .int 0, .int w10, .int (nI w11.length)])), (x9, .inl (cB, w12, .inl w13))]) (fz := (w14 ++ fz)) (wc := [(sb, .inr (13, [.ref x9, .int 0, .int w10, .int (nI w11.length)])), (x9, .inl (cB, w12, .inl w13))]) hD [0, 1] (by decide) rfl
              have hFc := zz_free (pre := [(sb, .inr (13, [.ref x9, .int 0, .int w10, .int (nI w11.length)])), (x9, .inl (cB, w12, .inl w13))]) (fz := (w14 ++ fz)) (wc := [(sb, .inr (13, [.ref x9, .int 0, .int w10, .int (nI w11.length)])), (x9, .inl (cB, w12, .inl w13))]) hD hS hA [0, 1] rfl
              have hKc := hK.sub (tys' := [(cB, .byte)]) [0] rfl
              refine va_callq (va_runS (As := [.ref y13, .ref sb]) (rest := []) ⟨hx, hb, hml, hown, htb⟩ (k_PT_of l dC dI _ y13 d3 (LTx.getD 13 []) ((ksR rows).getD t13 []) sb x9 w10 cB w13 w12 w11 cO em aK aV (w14 ++ fz) hv13 hB2 hv13.txlen) (va_cwS 2 htb (g_S (fun _ h => h) m_612 m_610 m_611 m_21) rfl rfl rfl (by decide +kernel) ⟨Nat.le_of_ble_eq_true rfl, Nat.le_of_ble_eq_true rfl⟩) ⟨fun a U g mk q => by obtain ⟨q0, q1, qP, qK, qD, z0⟩ := q; exact ⟨q0, q1, qP, va_K.moved (u := U) (U := U.calling g mk a) (Vm.Alike.refl U.vm) qK, qD, EX.same (U := U) (U' := U.calling g mk a) rfl z0⟩, fun U hU hW => ⟨rfl, by rw [hU], by rw [hU]; exact hPc, va_K.moved hW.alike hKc, hDc.weaken (fun _ _ _ _ => trivial), by rw [hU]; exact EX.warm hW ((hE.kept (fun a h1 h2 => hS.2.1 a h1 h2)).narrow hFc)⟩⟩ rfl rfl hl.1 rfl (lv_room (Nat.le_of_ble_eq_true rfl)) d_OP_of_49 ⟨(by show ((0 + (1 + 5 * (txR ((ksR rows).getD t12 [])).length)) + (1 + 5 * (txR ((ksR rows).getD t13 [])).length)) ≤ (3 + 10 * tln rows); omega), (by show ((0 + (3 + 331 * (txR ((ksR rows).getD t12 [])).length)) + (3 + 331 * (txR ((ksR rows).getD t13 [])).length)) ≤ (10 + 662 * tln rows); omega)⟩) hS (fun q _ h => hFc q h) hFc (fun r20 u19 t H1 locs ht hvm hw21 hB hz1 hk1 hS => ?_)
              obtain ⟨x23, hP1, hK1, hD1⟩ := hB
              rw [ht] at hP1
              have hK1 := va_K.moved hvm.symm hK1
              obtain ⟨w24, w25, w26, w27, w28⟩ := u19
              have hw21 : Bld w25 w26 w27 ∧ ((r20 = none ∧ (¬ hdK ((ksR rows).getD t13 []) = 4 ∨ ptr (txR ((ksR rows).getD t13 [])) = none)) ∨ ∃ y8 s8, r20 = some y8 ∧ hdK ((ksR rows).getD t13 []) = 4 ∧ ptr (txR ((ksR rows).getD t13 [])) = some s8 ∧ PTz cB aK (w28 ++ (w14 ++ fz)) s8 y8) := hw21
              obtain ⟨hP, hD⟩ := zz_join (pre := [(sb, .inr (13, [.ref x9, .int 0, .int w10, .int (nI w11.length)])), (x9, .inl (cB, w12, .inl w13))]) (fz := (w14 ++ fz)) (wc := [(sb, .inr (13, [.ref x9, .int 0, .int w10, .int (nI w11.length)])), (x9, .inl (cB, w12, .inl w13))]) (wr := []) (w1 := ([(sb, .inr (13, [.ref x23, .int 0, .int w24, .int (nI w25.length)])), (x23, .inl (cB, w26, .inl w27))] ++ (w28 ++ (w14 ++ fz)))) hP hD [0, 1] [] rfl rfl (by decide) (by decide) hk1 hFc hP1 hD1
              have hK := (hK.sub (tys' := [(cO, .object "java/lang/Object")]) [1] rfl).app hK1
              generalize H1 = H at hP hS ⊢
              have hP : va_P (dC, dI) vwCl ([(sb, .inr (13, [.ref x23, .int 0, .int w24, .int (nI w25.length)])), (x23, .inl (cB, w26, .inl w27))] ++ (w28 ++ (w14 ++ fz))) H := hP
              have hD : va_D A ([(sb, .inr (13, [.ref x23, .int 0, .int w24, .int (nI w25.length)])), (x23, .inl (cB, w26, .inl w27))] ++ (w28 ++ (w14 ++ fz))) := hD
              have hK : va_K (dC, dI) vwCl [(cO, .object "java/lang/Object"), (cB, .byte)] s := hK
              obtain ⟨hB3, ⟨rfl, hfb⟩ | ⟨yf, sf, rfl, hf4, hfs, hfp⟩⟩ := hw21
              · refine W.eq (g2 := F0 m 52 ls [.null]) rfl ?_
                refine lv_astoreN hx hb d_OP_of_52 hl (by decide) rfl (fun ls hl => ?_)
                have hl : lv_has ls 5 [(4, .null), (3, .ref yp), (2, .int (nI (opK (mbR rows (LTx.getD 5 []))))), (0, .ref a), (1, .ref sb)] := hl
                refine lv_aloadN hx hb d_OP_of_54 (lv_at hl 0 rfl) ?_
                refine lv_ifnonnullN hx hb d_OP_of_56 ?_
                refine lv_null hx hb d_OP_of_59 ?_
                refine lv_goto (tgt := 75) hx hb d_OP_of_60 rfl ?_
                have hP := zz_permP (pre := [(sb, .inr (13, [.ref x23, .int 0, .int w24, .int (nI w25.length)])), (x23, .inl (cB, w26, .inl w27))]) (t1 := (w28 ++ (w14 ++ fz))) (t2 := ((w28 ++ w14) ++ fz)) hP (pm2 _ _ _)
                have hD := zz_permD (pre := [(sb, .inr (13, [.ref x23, .int 0, .int w24, .int (nI w25.length)])), (x23, .inl (cB, w26, .inl w27))]) (t1 := (w28 ++ (w14 ++ fz))) (t2 := ((w28 ++ w14) ++ fz)) hD (pm2 _ _ _)
                have hP9 := zz_pickP (pre := [(sb, .inr (13, [.ref x23, .int 0, .int w24, .int (nI w25.length)])), (x23, .inl (cB, w26, .inl w27))]) (fz := ((w28 ++ w14) ++ fz)) (wc := [(sb, .inr (13, [.ref x23, .int 0, .int w24, .int (nI w25.length)])), (x23, .inl (cB, w26, .inl w27))]) hP [0, 1] rfl
                have hD9 := zz_pickD (pre := [(sb, .inr (13, [.ref x23, .int 0, .int w24, .int (nI w25.length)])), (x23, .inl (cB, w26, .inl w27))]) (fz := ((w28 ++ w14) ++ fz)) (wc := [(sb, .inr (13, [.ref x23, .int 0, .int w24, .int (nI w25.length)])), (x23, .inl (cB, w26, .inl w27))]) hD [0, 1] (by decide) rfl
                have hK9 := hK.sub (tys' := [(cB, .byte), (cO, .object "java/lang/Object")]) [1, 0] rfl
                rw [hQ]
                refine W.widen (k := (3 + 10 * tln rows)) (n := (10 + 662 * tln rows)) ((by show ((0 + (1 + 5 * (txR ((ksR rows).getD t12 [])).length)) + (1 + 5 * (txR ((ksR rows).getD t13 [])).length)) ≤ (3 + 10 * tln rows); omega)) ((by show ((0 + (3 + 331 * (txR ((ksR rows).getD t12 [])).length)) + (3 + 331 * (txR ((ksR rows).getD t13 [])).length)) ≤ (10 + 662 * tln rows); omega)) ?_
                exact W.aret (v := .null) hx hb hr (Or.inl ⟨_, rfl⟩) (Or.inl rfl) (fun t ht hW => ⟨⟨none, (w24, w25, w26, w27, (w28 ++ w14)), rfl, ⟨hB3, Or.inl ⟨rfl, by rw [hop, hmb13, opP_none hfb]; rfl⟩⟩, ⟨x23, by rw [ht]; exact hP9, va_K.moved hW.alike hK9, hD9⟩⟩, hS.F ht⟩) hS.2.2 d_OP_of_75
              · refine W.eq (g2 := F0 m 52 ls [.ref yf]) rfl ?_
                refine lv_astore hx hb d_OP_of_52 hl (by decide) rfl (fun ls hl => ?_)
                have hl : lv_has ls 5 [(4, .ref yf), (3, .ref yp), (2, .int (nI (opK (mbR rows (LTx.getD 5 []))))), (0, .ref a), (1, .ref sb)] := hl
                refine lv_aload hx hb d_OP_of_54 (lv_at hl 0 rfl) ?_
                refine lv_ifnonnull (tgt := 63) hx hb d_OP_of_56 rfl ?_
                refine va_new (ci := 4) (fs := [.int 0, .null, .null, .null]) (C := R_OP) (T := T_OP) (N := 4) hx hb htb in_OP ty_OP ty_OP_ok hown (htb _ m_724) (htb _ m_725) (htb _ m_20) hK hP hD hS hA rfl (fun j hj => by rcases (show j = 0 ∨ j = 1 ∨ j = 2 ∨ j = 3 by omega) with rfl | rfl | rfl | rfl <;> rfl) ((by show (((0 + (1 + 5 * (txR ((ksR rows).getD t12 [])).length)) + (1 + 5 * (txR ((ksR rows).getD t13 [])).length)) + 1) ≤ (3 + 10 * tln rows); omega)) ((by show (((0 + (3 + 331 * (txR ((ksR rows).getD t12 [])).length)) + (3 + 331 * (txR ((ksR rows).getD t13 [])).length)) + 4) ≤ (10 + 662 * tln rows); omega)) d_OP_of_63 (fun on H hP hD hS => ?_)
                have hP := zz_rotP (pre := [(sb, .inr (13, [.ref x23, .int 0, .int w24, .int (nI w25.length)])), (x23, .inl (cB, w26, .inl w27))]) (fz := (w28 ++ (w14 ++ fz))) hP
                have hD := zz_rotD (pre := [(sb, .inr (13, [.ref x23, .int 0, .int w24, .int (nI w25.length)])), (x23, .inl (cB, w26, .inl w27))]) (fz := (w28 ++ (w14 ++ fz))) hD
                have hP : va_P (dC, dI) vwCl ([(sb, .inr (13, [.ref x23, .int 0, .int w24, .int (nI w25.length)])), (x23, .inl (cB, w26, .inl w27)), (on, .inr (4, [.int 0, .null, .null, .null]))] ++ (w28 ++ (w14 ++ fz))) H := hP
                have hD : va_D A ([(sb, .inr (13, [.ref x23, .int 0, .int w24, .int (nI w25.length)])), (x23, .inl (cB, w26, .inl w27)), (on, .inr (4, [.int 0, .null, .null, .null]))] ++ (w28 ++ (w14 ++ fz))) := hD
                refine lv_dup hx hb d_OP_of_66 rfl ?_
                refine lv_iload_n hx hb d_OP_of_67 rfl (lv_at hl 2 rfl) ?_
                refine lv_aload_n hx hb d_OP_of_68 rfl (lv_at hl 1 rfl) ?_
                refine lv_aload hx hb d_OP_of_69 (lv_at hl 0 rfl) ?_
                refine lv_null hx hb d_OP_of_71 ?_
                have hPc := hP.sub (ws' := [(on, .inr (4, [.int 0, .null, .null, .null]))]) [2] rfl
                have hDc := hD.sub (ws' := [(on, .inr (4, [.int 0, .null, .null, .null]))]) [2] (by decide) rfl
                have hFc := va_free (wc := [(on, .inr (4, [.int 0, .null, .null, .null]))]) hD hS hA [2] rfl
                have hKc := hK.sub (tys' := []) [] rfl
                refine va_callv (va_runI (As := [.int (nI (opK (mbR rows (LTx.getD 5 [])))), .ref yp, .ref yf, .null]) (rest := [.ref on]) ⟨hx, hb, hml, hown, htb⟩ (k_OP_initF l dC dI _ on (nI (opK (mbR rows (LTx.getD 5 [])))) yp yf ) (cwI 4 htb (g_all (fun _ h => h) m_728) rfl rfl rfl (htb _ m_20) (htb _ m_726) (htb _ m_727) rfl (by decide +kernel) ⟨Nat.le_of_ble_eq_true rfl, Nat.le_of_ble_eq_true rfl⟩) ⟨fun a U g mk q => by obtain ⟨q0, q1, qP, qK, qD⟩ := q; exact ⟨q0, q1, qP, va_K.moved (u := U) (U := U.calling g mk a) (Vm.Alike.refl U.vm) qK, qD⟩, fun U hU hW => ⟨rfl, by rw [hU], by rw [hU]; exact hPc, va_K.moved hW.alike hKc, hDc.weaken (fun _ _ _ _ => trivial)⟩⟩ rfl rfl hl.1 rfl (lv_room (Nat.le_of_ble_eq_true rfl)) d_OP_of_72 ⟨(by show (((0 + (1 + 5 * (txR ((ksR rows).getD t12 [])).length)) + (1 + 5 * (txR ((ksR rows).getD t13 [])).length)) + 1) ≤ (3 + 10 * tln rows); omega), (by show (((0 + (3 + 331 * (txR ((ksR rows).getD t12 [])).length)) + (3 + 331 * (txR ((ksR rows).getD t13 [])).length)) + 4) ≤ (10 + 662 * tln rows); omega)⟩) hS (fun q _ h => hFc q h) hFc (fun u29 t H1 locs ht hvm hw31 hB hz1 hk1 hS => ?_)
                obtain ⟨hP1, hK1, hD1⟩ := hB
                rw [ht] at hP1
                have hK1 := va_K.moved hvm.symm hK1
                have hw31 : True := hw31
                obtain ⟨hP, hD⟩ := zz_joinN (pre := [(sb, .inr (13, [.ref x23, .int 0, .int w24, .int (nI w25.length)])), (x23, .inl (cB, w26, .inl w27)), (on, .inr (4, [.int 0, .null, .null, .null]))]) (fz := (w28 ++ (w14 ++ fz))) (wc := [(on, .inr (4, [.int 0, .null, .null, .null]))]) (wr := [(sb, .inr (13, [.ref x23, .int 0, .int w24, .int (nI w25.length)])), (x23, .inl (cB, w26, .inl w27))]) (w1 := [(on, .inr (4, [.int (nI (opK (mbR rows (LTx.getD 5 [])))), .ref yp, .ref yf, .null]))]) hP hD [2] [0, 1] rfl rfl (by decide) (by decide) hk1 hFc hP1 hD1
                have hK := (hK.sub (tys' := [(cO, .object "java/lang/Object"), (cB, .byte)]) [0, 1] rfl).app hK1
                generalize H1 = H at hP hS ⊢
                have hP : va_P (dC, dI) vwCl ([(sb, .inr (13, [.ref x23, .int 0, .int w24, .int (nI w25.length)])), (x23, .inl (cB, w26, .inl w27)), (on, .inr (4, [.int (nI (opK (mbR rows (LTx.getD 5 [])))), .ref yp, .ref yf, .null]))] ++ (w28 ++ (w14 ++ fz))) H := hP
                have hD : va_D A ([(sb, .inr (13, [.ref x23, .int 0, .int w24, .int (nI w25.length)])), (x23, .inl (cB, w26, .inl w27)), (on, .inr (4, [.int (nI (opK (mbR rows (LTx.getD 5 [])))), .ref yp, .ref yf, .null]))] ++ (w28 ++ (w14 ++ fz))) := hD
                have hK : va_K (dC, dI) vwCl [(cO, .object "java/lang/Object"), (cB, .byte)] s := hK
                have hP := zz_pickP (pre := [(sb, .inr (13, [.ref x23, .int 0, .int w24, .int (nI w25.length)])), (x23, .inl (cB, w26, .inl w27)), (on, .inr (4, [.int (nI (opK (mbR rows (LTx.getD 5 [])))), .ref yp, .ref yf, .null]))]) (fz := (w28 ++ (w14 ++ fz))) (wc := [(sb, .inr (13, [.ref x23, .int 0, .int w24, .int (nI w25.length)])), (x23, .inl (cB, w26, .inl w27)), (on, .inr (4, [.int (nI (opK (mbR rows (LTx.getD 5 [])))), .ref yp, .ref yf, .null]))]) hP [0, 1, 2] rfl
                have hD := zz_pickD (pre := [(sb, .inr (13, [.ref x23, .int 0, .int w24, .int (nI w25.length)])), (x23, .inl (cB, w26, .inl w27)), (on, .inr (4, [.int (nI (opK (mbR rows (LTx.getD 5 [])))), .ref yp, .ref yf, .null]))]) (fz := (w28 ++ (w14 ++ fz))) (wc := [(sb, .inr (13, [.ref x23, .int 0, .int w24, .int (nI w25.length)])), (x23, .inl (cB, w26, .inl w27)), (on, .inr (4, [.int (nI (opK (mbR rows (LTx.getD 5 [])))), .ref yp, .ref yf, .null]))]) hD [0, 1, 2] (by decide) rfl
                have hP : va_P (dC, dI) vwCl ([(sb, .inr (13, [.ref x23, .int 0, .int w24, .int (nI w25.length)])), (x23, .inl (cB, w26, .inl w27))] ++ ([(on, .inr (4, [.int (nI (opK (mbR rows (LTx.getD 5 [])))), .ref yp, .ref yf, .null]))] ++ (w28 ++ (w14 ++ fz)))) _ := hP
                have hD : va_D A ([(sb, .inr (13, [.ref x23, .int 0, .int w24, .int (nI w25.length)])), (x23, .inl (cB, w26, .inl w27))] ++ ([(on, .inr (4, [.int (nI (opK (mbR rows (LTx.getD 5 [])))), .ref yp, .ref yf, .null]))] ++ (w28 ++ (w14 ++ fz)))) := hD
                have hP := zz_permP (pre := [(sb, .inr (13, [.ref x23, .int 0, .int w24, .int (nI w25.length)])), (x23, .inl (cB, w26, .inl w27))]) (t1 := ([(on, .inr (4, [.int (nI (opK (mbR rows (LTx.getD 5 [])))), .ref yp, .ref yf, .null]))] ++ (w28 ++ (w14 ++ fz)))) (t2 := (([(on, .inr (4, [.int (nI (opK (mbR rows (LTx.getD 5 [])))), .ref yp, .ref yf, .null]))] ++ (w28 ++ w14)) ++ fz)) hP (pm3 _ _ _ _)
                have hD := zz_permD (pre := [(sb, .inr (13, [.ref x23, .int 0, .int w24, .int (nI w25.length)])), (x23, .inl (cB, w26, .inl w27))]) (t1 := ([(on, .inr (4, [.int (nI (opK (mbR rows (LTx.getD 5 [])))), .ref yp, .ref yf, .null]))] ++ (w28 ++ (w14 ++ fz)))) (t2 := (([(on, .inr (4, [.int (nI (opK (mbR rows (LTx.getD 5 [])))), .ref yp, .ref yf, .null]))] ++ (w28 ++ w14)) ++ fz)) hD (pm3 _ _ _ _)
                have hgT : ∀ q ∈ (w28 ++ (w14 ++ fz)), q ∈ (([(on, .inr (4, [.int (nI (opK (mbR rows (LTx.getD 5 [])))), .ref yp, .ref yf, .null]))] ++ (w28 ++ w14)) ++ fz) := fun q hq => (pm3 _ _ _ _ : ((([(on, .inr (4, [.int (nI (opK (mbR rows (LTx.getD 5 [])))), .ref yp, .ref yf, .null]))] : va_W) ++ (w28 ++ w14)) ++ fz).Perm (([(on, .inr (4, [.int (nI (opK (mbR rows (LTx.getD 5 [])))), .ref yp, .ref yf, .null]))] : va_W) ++ (w28 ++ (w14 ++ fz)))).mem_iff.mpr (List.mem_append_right _ hq)
                have hoz : OPz cB cO em aK (([(on, .inr (4, [.int (nI (opK (mbR rows (LTx.getD 5 [])))), .ref yp, .ref yf, .null]))] ++ (w28 ++ w14)) ++ fz) ((opK (mbR rows (LTx.getD 5 []))), sp, sf, []) on := ⟨yp, hpp.mono (fun q hq => hgT q (List.mem_append_right _ hq)), Or.inl ⟨h45, yf, List.mem_append_left _ (List.mem_append_left _ List.mem_cons_self), hfp.mono hgT⟩⟩
                have hP9 := zz_pickP (pre := [(sb, .inr (13, [.ref x23, .int 0, .int w24, .int (nI w25.length)])), (x23, .inl (cB, w26, .inl w27))]) (fz := (([(on, .inr (4, [.int (nI (opK (mbR rows (LTx.getD 5 [])))), .ref yp, .ref yf, .null]))] ++ (w28 ++ w14)) ++ fz)) (wc := [(sb, .inr (13, [.ref x23, .int 0, .int w24, .int (nI w25.length)])), (x23, .inl (cB, w26, .inl w27))]) hP [0, 1] rfl
                have hD9 := zz_pickD (pre := [(sb, .inr (13, [.ref x23, .int 0, .int w24, .int (nI w25.length)])), (x23, .inl (cB, w26, .inl w27))]) (fz := (([(on, .inr (4, [.int (nI (opK (mbR rows (LTx.getD 5 [])))), .ref yp, .ref yf, .null]))] ++ (w28 ++ w14)) ++ fz)) (wc := [(sb, .inr (13, [.ref x23, .int 0, .int w24, .int (nI w25.length)])), (x23, .inl (cB, w26, .inl w27))]) hD [0, 1] (by decide) rfl
                have hK9 := hK.sub (tys' := [(cB, .byte), (cO, .object "java/lang/Object")]) [1, 0] rfl
                rw [hQ]
                refine W.widen (k := (3 + 10 * tln rows)) (n := (10 + 662 * tln rows)) ((by show (((0 + (1 + 5 * (txR ((ksR rows).getD t12 [])).length)) + (1 + 5 * (txR ((ksR rows).getD t13 [])).length)) + 1) ≤ (3 + 10 * tln rows); omega)) ((by show (((0 + (3 + 331 * (txR ((ksR rows).getD t12 [])).length)) + (3 + 331 * (txR ((ksR rows).getD t13 [])).length)) + 4) ≤ (10 + 662 * tln rows); omega)) ?_
                exact W.aret (v := .ref on) hx hb hr (Or.inl ⟨_, rfl⟩) (Or.inr ⟨_, rfl⟩) (fun t ht hW => ⟨⟨(some on), (w24, w25, w26, w27, ([(on, .inr (4, [.int (nI (opK (mbR rows (LTx.getD 5 [])))), .ref yp, .ref yf, .null]))] ++ (w28 ++ w14))), rfl, ⟨hB3, Or.inr ⟨_, _, rfl, by rw [hop, hmb13, opP_some hf4 hfs]; rfl, hoz⟩⟩, ⟨x23, by rw [ht]; exact hP9, va_K.moved hW.alike hK9, hD9⟩⟩, hS.F ht⟩) hS.2.2 d_OP_of_75
          · have h6 : ¬ (opK (mbR rows (LTx.getD 5 []))) = 4 := fun h => h6 (by rw [h]; rfl)
            refine lv_iload_n hx hb d_OP_of_37 rfl (lv_at hl 1 rfl) ?_
            refine lv_iconst (v := 5) hx hb d_OP_of_38 (by decide) ?_
            refine lv_icmp_ne (tgt := 76) hx hb d_OP_of_39 rfl (fun h8 => ?_) (fun h8 => ?_)
            · have h8 : ¬ (opK (mbR rows (LTx.getD 5 []))) = 5 := fun h => h8 (by rw [h]; rfl)
              have h45 : ¬ ((opK (mbR rows (LTx.getD 5 []))) = 4 ∨ (opK (mbR rows (LTx.getD 5 []))) = 5) := fun h => h.elim h6 h8
              refine lv_iload_n hx hb d_OP_of_76 rfl (lv_at hl 1 rfl) ?_
              refine lv_iconst (v := 2) hx hb d_OP_of_77 (by decide) ?_
              refine lv_icmp_ne (tgt := 93) hx hb d_OP_of_78 rfl (fun h7 => ?_) (fun h7 => ?_)
              · have h7 : ¬ (opK (mbR rows (LTx.getD 5 []))) = 2 := fun h => h7 (by rw [h]; rfl)
                rw [if_neg h5, if_neg h45, if_neg h7] at hop
                refine lv_aload_n hx hb d_OP_of_93 rfl (lv_at hl 2 rfl) ?_
                refine va_ldcS hx hb hown (lr_18 hE) d_OP_of_94 ?_
                have hli14 : TX cB aK (w14 ++ fz) (aK 14) (LTx.getD 14 []) := Or.inr ⟨14, by decide, rfl, rfl⟩
                have hPc := zz_pickP (pre := [(sb, .inr (13, [.ref x9, .int 0, .int w10, .int (nI w11.length)])), (x9, .inl (cB, w12, .inl w13))]) (fz := (w14 ++ fz)) (wc := []) hP [] rfl
                have hDc := zz_pickD (pre := [(sb, .inr (13, [.ref x9, .int 0, .int w10, .int (nI w11.length)])), (x9, .inl (cB, w12, .inl w13))]) (fz := (w14 ++ fz)) (wc := []) hD [] (by decide) rfl
                have hFc := zz_free (pre := [(sb, .inr (13, [.ref x9, .int 0, .int w10, .int (nI w11.length)])), (x9, .inl (cB, w12, .inl w13))]) (fz := (w14 ++ fz)) (wc := []) hD hS hA [] rfl
                have hKc := hK.sub (tys' := [(cB, .byte), (cO, .object "java/lang/Object")]) [1, 0] rfl
                refine va_callq (va_runV (As := [.ref (aK 14)]) (rest := []) ⟨hx, hb, hml, hown, htb⟩ (k_VA_member l dC dI _ a d nn rows (aK 14) (LTx.getD 14 []) cB cO em aK aV (w14 ++ fz) hv2 hli14) (cwV 1 htb (g_V (fun _ h => h) m_593 m_590 m_591 m_592 m_18) rfl rfl rfl (by decide +kernel) ⟨Nat.le_of_ble_eq_true rfl, Nat.le_of_ble_eq_true rfl⟩) ⟨fun a U g mk q => by obtain ⟨q0, q1, qP, qK, qD, z0⟩ := q; exact ⟨q0, q1, qP, va_K.moved (u := U) (U := U.calling g mk a) (Vm.Alike.refl U.vm) qK, qD, EX.same (U := U) (U' := U.calling g mk a) rfl z0⟩, zz_recv hK hP (ci := 3) rfl (List.mem_append_right _ (hv2).vin.choose_spec), fun U hU hW => ⟨rfl, by rw [hU], by rw [hU]; exact hPc, va_K.moved hW.alike hKc, hDc.weaken (fun _ _ _ _ => trivial), by rw [hU]; exact EX.warm hW ((hE.kept (fun a h1 h2 => hS.2.1 a h1 h2)).narrow hFc)⟩⟩ rfl rfl hl.1 rfl (lv_room (Nat.le_of_ble_eq_true rfl)) d_OP_of_96 ⟨(by show (0 + (1 + 5 * (txR ((ksR rows).getD t12 [])).length)) ≤ (3 + 10 * tln rows); omega), (by show (0 + (3 + 331 * (txR ((ksR rows).getD t12 [])).length)) ≤ (10 + 662 * tln rows); omega)⟩) hS (fun q _ h => hFc q h) hFc (fun r16 u15 t H1 locs ht hvm hw17 hB hz1 hk1 hS => ?_)
                obtain ⟨hP1, hK1, hD1⟩ := hB
                rw [ht] at hP1
                have hK1 := va_K.moved hvm.symm hK1
                have hw17 : (r16 = none ∧ mpl rows (LTx.getD 14 []) = none) ∨ ∃ t8 y8, r16 = some y8 ∧ mpl rows (LTx.getD 14 []) = some t8 ∧ t8 < (ksR rows).length ∧ VT cB cO em aK d (w14 ++ fz) y8 (LTx.getD 14 []) ((ksR rows).getD t8 []) := hw17
                obtain ⟨hP, hD⟩ := zz_join (pre := [(sb, .inr (13, [.ref x9, .int 0, .int w10, .int (nI w11.length)])), (x9, .inl (cB, w12, .inl w13))]) (fz := (w14 ++ fz)) (wc := []) (wr := [(sb, .inr (13, [.ref x9, .int 0, .int w10, .int (nI w11.length)])), (x9, .inl (cB, w12, .inl w13))]) (w1 := ([] ++ (w14 ++ fz))) hP hD [] [0, 1] rfl rfl (by decide) (by decide) hk1 hFc hP1 hD1
                have hK := (hK.sub (tys' := []) [] rfl).app hK1
                generalize H1 = H at hP hS ⊢
                have hP : va_P (dC, dI) vwCl ([(sb, .inr (13, [.ref x9, .int 0, .int w10, .int (nI w11.length)])), (x9, .inl (cB, w12, .inl w13))] ++ (w14 ++ fz)) H := hP
                have hD : va_D A ([(sb, .inr (13, [.ref x9, .int 0, .int w10, .int (nI w11.length)])), (x9, .inl (cB, w12, .inl w13))] ++ (w14 ++ fz)) := hD
                have hK : va_K (dC, dI) vwCl [(cB, .byte), (cO, .object "java/lang/Object")] s := hK
                obtain ⟨rfl, hmp⟩ | ⟨t14, y14, rfl, hmp, htl14, hvm14⟩ := hw17
                · refine W.eq (g2 := F0 m 99 ls [.null]) rfl ?_
                  have hmb14 : mbR rows (LTx.getD 14 []) = none := by rw [mbR, hmp]; rfl
                  refine lv_astoreN hx hb d_OP_of_99 hl (by decide) rfl (fun ls hl => ?_)
                  have hl : lv_has ls 5 [(4, .null), (3, .ref yp), (2, .int (nI (opK (mbR rows (LTx.getD 5 []))))), (0, .ref a), (1, .ref sb)] := hl
                  refine lv_aloadN hx hb d_OP_of_101 (lv_at hl 0 rfl) ?_
                  refine lv_ifnonnullN hx hb d_OP_of_103 ?_
                  refine lv_null hx hb d_OP_of_106 ?_
                  refine lv_goto (tgt := 122) hx hb d_OP_of_107 rfl ?_
                  have hP9 := zz_pickP (pre := [(sb, .inr (13, [.ref x9, .int 0, .int w10, .int (nI w11.length)])), (x9, .inl (cB, w12, .inl w13))]) (fz := (w14 ++ fz)) (wc := [(sb, .inr (13, [.ref x9, .int 0, .int w10, .int (nI w11.length)])), (x9, .inl (cB, w12, .inl w13))]) hP [0, 1] rfl
                  have hD9 := zz_pickD (pre := [(sb, .inr (13, [.ref x9, .int 0, .int w10, .int (nI w11.length)])), (x9, .inl (cB, w12, .inl w13))]) (fz := (w14 ++ fz)) (wc := [(sb, .inr (13, [.ref x9, .int 0, .int w10, .int (nI w11.length)])), (x9, .inl (cB, w12, .inl w13))]) hD [0, 1] (by decide) rfl
                  have hK9 := hK.sub (tys' := [(cB, .byte), (cO, .object "java/lang/Object")]) [0, 1] rfl
                  rw [hQ]
                  refine W.widen (k := (3 + 10 * tln rows)) (n := (10 + 662 * tln rows)) ((by show (0 + (1 + 5 * (txR ((ksR rows).getD t12 [])).length)) ≤ (3 + 10 * tln rows); omega)) ((by show (0 + (3 + 331 * (txR ((ksR rows).getD t12 [])).length)) ≤ (10 + 662 * tln rows); omega)) ?_
                  exact W.aret (v := .null) hx hb hr (Or.inl ⟨_, rfl⟩) (Or.inl rfl) (fun t ht hW => ⟨⟨none, (w10, w11, w12, w13, w14), rfl, ⟨hB2, Or.inl ⟨rfl, by rw [hop, hmb14]; rfl⟩⟩, ⟨x9, by rw [ht]; exact hP9, va_K.moved hW.alike hK9, hD9⟩⟩, hS.F ht⟩) hS.2.2 d_OP_of_122
                · refine W.eq (g2 := F0 m 99 ls [.ref y14]) rfl ?_
                  have hmb14 : mbR rows (LTx.getD 14 []) = some ((ksR rows).getD t14 []) := by rw [mbR, hmp]; rfl
                  have hk136 : (opK (mbR rows (LTx.getD 5 []))) = 1 ∨ (opK (mbR rows (LTx.getD 5 []))) = 3 ∨ (opK (mbR rows (LTx.getD 5 []))) = 6 := by omega
                  refine lv_astore hx hb d_OP_of_99 hl (by decide) rfl (fun ls hl => ?_)
                  have hl : lv_has ls 5 [(4, .ref y14), (3, .ref yp), (2, .int (nI (opK (mbR rows (LTx.getD 5 []))))), (0, .ref a), (1, .ref sb)] := hl
                  refine lv_aload hx hb d_OP_of_101 (lv_at hl 0 rfl) ?_
                  refine lv_ifnonnull (tgt := 110) hx hb d_OP_of_103 rfl ?_
                  refine va_new (ci := 4) (fs := [.int 0, .null, .null, .null]) (C := R_OP) (T := T_OP) (N := 4) hx hb htb in_OP ty_OP ty_OP_ok hown (htb _ m_724) (htb _ m_725) (htb _ m_20) hK hP hD hS hA rfl (fun j hj => by rcases (show j = 0 ∨ j = 1 ∨ j = 2 ∨ j = 3 by omega) with rfl | rfl | rfl | rfl <;> rfl) ((by show ((0 + (1 + 5 * (txR ((ksR rows).getD t12 [])).length)) + 1) ≤ (3 + 10 * tln rows); omega)) ((by show ((0 + (3 + 331 * (txR ((ksR rows).getD t12 [])).length)) + 4) ≤ (10 + 662 * tln rows); omega)) d_OP_of_110 (fun on H hP hD hS => ?_)
                  have hP := zz_rotP (pre := [(sb, .inr (13, [.ref x9, .int 0, .int w10, .int (nI w11.length)])), (x9, .inl (cB, w12, .inl w13))]) (fz := (w14 ++ fz)) hP
                  have hD := zz_rotD (pre := [(sb, .inr (13, [.ref x9, .int 0, .int w10, .int (nI w11.length)])), (x9, .inl (cB, w12, .inl w13))]) (fz := (w14 ++ fz)) hD
                  have hP : va_P (dC, dI) vwCl ([(sb, .inr (13, [.ref x9, .int 0, .int w10, .int (nI w11.length)])), (x9, .inl (cB, w12, .inl w13)), (on, .inr (4, [.int 0, .null, .null, .null]))] ++ (w14 ++ fz)) H := hP
                  have hD : va_D A ([(sb, .inr (13, [.ref x9, .int 0, .int w10, .int (nI w11.length)])), (x9, .inl (cB, w12, .inl w13)), (on, .inr (4, [.int 0, .null, .null, .null]))] ++ (w14 ++ fz)) := hD
                  refine lv_dup hx hb d_OP_of_113 rfl ?_
                  refine lv_iload_n hx hb d_OP_of_114 rfl (lv_at hl 2 rfl) ?_
                  refine lv_aload_n hx hb d_OP_of_115 rfl (lv_at hl 1 rfl) ?_
                  refine lv_null hx hb d_OP_of_116 ?_
                  refine lv_aload hx hb d_OP_of_117 (lv_at hl 0 rfl) ?_
                  have hPc := hP.sub (ws' := [(on, .inr (4, [.int 0, .null, .null, .null]))]) [2] rfl
                  have hDc := hD.sub (ws' := [(on, .inr (4, [.int 0, .null, .null, .null]))]) [2] (by decide) rfl
                  have hFc := va_free (wc := [(on, .inr (4, [.int 0, .null, .null, .null]))]) hD hS hA [2] rfl
                  have hKc := hK.sub (tys' := []) [] rfl
                  refine va_callv (va_runI (As := [.int (nI (opK (mbR rows (LTx.getD 5 [])))), .ref yp, .null, .ref y14]) (rest := [.ref on]) ⟨hx, hb, hml, hown, htb⟩ (k_OP_initV l dC dI _ on (nI (opK (mbR rows (LTx.getD 5 [])))) yp y14 ) (cwI 4 htb (g_all (fun _ h => h) m_728) rfl rfl rfl (htb _ m_20) (htb _ m_726) (htb _ m_727) rfl (by decide +kernel) ⟨Nat.le_of_ble_eq_true rfl, Nat.le_of_ble_eq_true rfl⟩) ⟨fun a U g mk q => by obtain ⟨q0, q1, qP, qK, qD⟩ := q; exact ⟨q0, q1, qP, va_K.moved (u := U) (U := U.calling g mk a) (Vm.Alike.refl U.vm) qK, qD⟩, fun U hU hW => ⟨rfl, by rw [hU], by rw [hU]; exact hPc, va_K.moved hW.alike hKc, hDc.weaken (fun _ _ _ _ => trivial)⟩⟩ rfl rfl hl.1 rfl (lv_room (Nat.le_of_ble_eq_true rfl)) d_OP_of_119 ⟨(by show ((0 + (1 + 5 * (txR ((ksR rows).getD t12 [])).length)) + 1) ≤ (3 + 10 * tln rows); omega), (by show ((0 + (3 + 331 * (txR ((ksR rows).getD t12 [])).length)) + 4) ≤ (10 + 662 * tln rows); omega)⟩) hS (fun q _ h => hFc q h) hFc (fun u19 t H1 locs ht hvm hw21 hB hz1 hk1 hS => ?_)
                  obtain ⟨hP1, hK1, hD1⟩ := hB
                  rw [ht] at hP1
                  have hK1 := va_K.moved hvm.symm hK1
                  have hw21 : True := hw21
                  obtain ⟨hP, hD⟩ := zz_joinN (pre := [(sb, .inr (13, [.ref x9, .int 0, .int w10, .int (nI w11.length)])), (x9, .inl (cB, w12, .inl w13)), (on, .inr (4, [.int 0, .null, .null, .null]))]) (fz := (w14 ++ fz)) (wc := [(on, .inr (4, [.int 0, .null, .null, .null]))]) (wr := [(sb, .inr (13, [.ref x9, .int 0, .int w10, .int (nI w11.length)])), (x9, .inl (cB, w12, .inl w13))]) (w1 := [(on, .inr (4, [.int (nI (opK (mbR rows (LTx.getD 5 [])))), .ref yp, .null, .ref y14]))]) hP hD [2] [0, 1] rfl rfl (by decide) (by decide) hk1 hFc hP1 hD1
                  have hK := (hK.sub (tys' := [(cB, .byte), (cO, .object "java/lang/Object")]) [0, 1] rfl).app hK1
                  generalize H1 = H at hP hS ⊢
                  have hP : va_P (dC, dI) vwCl ([(sb, .inr (13, [.ref x9, .int 0, .int w10, .int (nI w11.length)])), (x9, .inl (cB, w12, .inl w13)), (on, .inr (4, [.int (nI (opK (mbR rows (LTx.getD 5 [])))), .ref yp, .null, .ref y14]))] ++ (w14 ++ fz)) H := hP
                  have hD : va_D A ([(sb, .inr (13, [.ref x9, .int 0, .int w10, .int (nI w11.length)])), (x9, .inl (cB, w12, .inl w13)), (on, .inr (4, [.int (nI (opK (mbR rows (LTx.getD 5 [])))), .ref yp, .null, .ref y14]))] ++ (w14 ++ fz)) := hD
                  have hK : va_K (dC, dI) vwCl [(cB, .byte), (cO, .object "java/lang/Object")] s := hK
                  have hP := zz_pickP (pre := [(sb, .inr (13, [.ref x9, .int 0, .int w10, .int (nI w11.length)])), (x9, .inl (cB, w12, .inl w13)), (on, .inr (4, [.int (nI (opK (mbR rows (LTx.getD 5 [])))), .ref yp, .null, .ref y14]))]) (fz := (w14 ++ fz)) (wc := [(sb, .inr (13, [.ref x9, .int 0, .int w10, .int (nI w11.length)])), (x9, .inl (cB, w12, .inl w13)), (on, .inr (4, [.int (nI (opK (mbR rows (LTx.getD 5 [])))), .ref yp, .null, .ref y14]))]) hP [0, 1, 2] rfl
                  have hD := zz_pickD (pre := [(sb, .inr (13, [.ref x9, .int 0, .int w10, .int (nI w11.length)])), (x9, .inl (cB, w12, .inl w13)), (on, .inr (4, [.int (nI (opK (mbR rows (LTx.getD 5 [])))), .ref yp, .null, .ref y14]))]) (fz := (w14 ++ fz)) (wc := [(sb, .inr (13, [.ref x9, .int 0, .int w10, .int (nI w11.length)])), (x9, .inl (cB, w12, .inl w13)), (on, .inr (4, [.int (nI (opK (mbR rows (LTx.getD 5 [])))), .ref yp, .null, .ref y14]))]) hD [0, 1, 2] (by decide) rfl
                  have hP : va_P (dC, dI) vwCl ([(sb, .inr (13, [.ref x9, .int 0, .int w10, .int (nI w11.length)])), (x9, .inl (cB, w12, .inl w13))] ++ ([(on, .inr (4, [.int (nI (opK (mbR rows (LTx.getD 5 [])))), .ref yp, .null, .ref y14]))] ++ (w14 ++ fz))) _ := hP
                  have hD : va_D A ([(sb, .inr (13, [.ref x9, .int 0, .int w10, .int (nI w11.length)])), (x9, .inl (cB, w12, .inl w13))] ++ ([(on, .inr (4, [.int (nI (opK (mbR rows (LTx.getD 5 [])))), .ref yp, .null, .ref y14]))] ++ (w14 ++ fz))) := hD
                  have hP := zz_permP (pre := [(sb, .inr (13, [.ref x9, .int 0, .int w10, .int (nI w11.length)])), (x9, .inl (cB, w12, .inl w13))]) (t1 := ([(on, .inr (4, [.int (nI (opK (mbR rows (LTx.getD 5 [])))), .ref yp, .null, .ref y14]))] ++ (w14 ++ fz))) (t2 := (([(on, .inr (4, [.int (nI (opK (mbR rows (LTx.getD 5 [])))), .ref yp, .null, .ref y14]))] ++ w14) ++ fz)) hP (pm2 _ _ _)
                  have hD := zz_permD (pre := [(sb, .inr (13, [.ref x9, .int 0, .int w10, .int (nI w11.length)])), (x9, .inl (cB, w12, .inl w13))]) (t1 := ([(on, .inr (4, [.int (nI (opK (mbR rows (LTx.getD 5 [])))), .ref yp, .null, .ref y14]))] ++ (w14 ++ fz))) (t2 := (([(on, .inr (4, [.int (nI (opK (mbR rows (LTx.getD 5 [])))), .ref yp, .null, .ref y14]))] ++ w14) ++ fz)) hD (pm2 _ _ _)
                  have hgT : ∀ q ∈ (w14 ++ fz), q ∈ (([(on, .inr (4, [.int (nI (opK (mbR rows (LTx.getD 5 [])))), .ref yp, .null, .ref y14]))] ++ w14) ++ fz) := fun q hq => (pm2 _ _ _ : ((([(on, .inr (4, [.int (nI (opK (mbR rows (LTx.getD 5 [])))), .ref yp, .null, .ref y14]))] : va_W) ++ w14) ++ fz).Perm (([(on, .inr (4, [.int (nI (opK (mbR rows (LTx.getD 5 [])))), .ref yp, .null, .ref y14]))] : va_W) ++ (w14 ++ fz))).mem_iff.mpr (List.mem_append_right _ hq)
                  have hoz : OPz cB cO em aK (([(on, .inr (4, [.int (nI (opK (mbR rows (LTx.getD 5 [])))), .ref yp, .null, .ref y14]))] ++ w14) ++ fz) ((opK (mbR rows (LTx.getD 5 []))), sp, [], ((ksR rows).getD t14 [])) on := ⟨yp, hpp.mono hgT, Or.inr (Or.inr ⟨hk136, y14, _, _, List.mem_append_left _ (List.mem_append_left _ List.mem_cons_self), hvm14.mono hgT, hd⟩)⟩
                  have hP9 := zz_pickP (pre := [(sb, .inr (13, [.ref x9, .int 0, .int w10, .int (nI w11.length)])), (x9, .inl (cB, w12, .inl w13))]) (fz := (([(on, .inr (4, [.int (nI (opK (mbR rows (LTx.getD 5 [])))), .ref yp, .null, .ref y14]))] ++ w14) ++ fz)) (wc := [(sb, .inr (13, [.ref x9, .int 0, .int w10, .int (nI w11.length)])), (x9, .inl (cB, w12, .inl w13))]) hP [0, 1] rfl
                  have hD9 := zz_pickD (pre := [(sb, .inr (13, [.ref x9, .int 0, .int w10, .int (nI w11.length)])), (x9, .inl (cB, w12, .inl w13))]) (fz := (([(on, .inr (4, [.int (nI (opK (mbR rows (LTx.getD 5 [])))), .ref yp, .null, .ref y14]))] ++ w14) ++ fz)) (wc := [(sb, .inr (13, [.ref x9, .int 0, .int w10, .int (nI w11.length)])), (x9, .inl (cB, w12, .inl w13))]) hD [0, 1] (by decide) rfl
                  have hK9 := hK.sub (tys' := [(cB, .byte), (cO, .object "java/lang/Object")]) [0, 1] rfl
                  rw [hQ]
                  refine W.widen (k := (3 + 10 * tln rows)) (n := (10 + 662 * tln rows)) ((by show ((0 + (1 + 5 * (txR ((ksR rows).getD t12 [])).length)) + 1) ≤ (3 + 10 * tln rows); omega)) ((by show ((0 + (3 + 331 * (txR ((ksR rows).getD t12 [])).length)) + 4) ≤ (10 + 662 * tln rows); omega)) ?_
                  exact W.aret (v := .ref on) hx hb hr (Or.inl ⟨_, rfl⟩) (Or.inr ⟨_, rfl⟩) (fun t ht hW => ⟨⟨(some on), (w10, w11, w12, w13, ([(on, .inr (4, [.int (nI (opK (mbR rows (LTx.getD 5 [])))), .ref yp, .null, .ref y14]))] ++ w14)), rfl, ⟨hB2, Or.inr ⟨_, _, rfl, by rw [hop, hmb14]; rfl, hoz⟩⟩, ⟨x9, by rw [ht]; exact hP9, va_K.moved hW.alike hK9, hD9⟩⟩, hS.F ht⟩) hS.2.2 d_OP_of_122
              · have h7 : (opK (mbR rows (LTx.getD 5 []))) = 2 := (nI_eq (by omega) (by decide)).mp h7
                rw [if_neg h5, if_neg h45, if_pos h7] at hop
                refine va_new (ci := 4) (fs := [.int 0, .null, .null, .null]) (C := R_OP) (T := T_OP) (N := 4) hx hb htb in_OP ty_OP ty_OP_ok hown (htb _ m_724) (htb _ m_725) (htb _ m_20) hK hP hD hS hA rfl (fun j hj => by rcases (show j = 0 ∨ j = 1 ∨ j = 2 ∨ j = 3 by omega) with rfl | rfl | rfl | rfl <;> rfl) ((by show ((0 + (1 + 5 * (txR ((ksR rows).getD t12 [])).length)) + 1) ≤ (3 + 10 * tln rows); omega)) ((by show ((0 + (3 + 331 * (txR ((ksR rows).getD t12 [])).length)) + 4) ≤ (10 + 662 * tln rows); omega)) d_OP_of_81 (fun on H hP hD hS => ?_)
                have hP := zz_rotP (pre := [(sb, .inr (13, [.ref x9, .int 0, .int w10, .int (nI w11.length)])), (x9, .inl (cB, w12, .inl w13))]) (fz := (w14 ++ fz)) hP
                have hD := zz_rotD (pre := [(sb, .inr (13, [.ref x9, .int 0, .int w10, .int (nI w11.length)])), (x9, .inl (cB, w12, .inl w13))]) (fz := (w14 ++ fz)) hD
                have hP : va_P (dC, dI) vwCl ([(sb, .inr (13, [.ref x9, .int 0, .int w10, .int (nI w11.length)])), (x9, .inl (cB, w12, .inl w13)), (on, .inr (4, [.int 0, .null, .null, .null]))] ++ (w14 ++ fz)) H := hP
                have hD : va_D A ([(sb, .inr (13, [.ref x9, .int 0, .int w10, .int (nI w11.length)])), (x9, .inl (cB, w12, .inl w13)), (on, .inr (4, [.int 0, .null, .null, .null]))] ++ (w14 ++ fz)) := hD
                refine lv_dup hx hb d_OP_of_84 rfl ?_
                refine lv_iload_n hx hb d_OP_of_85 rfl (lv_at hl 1 rfl) ?_
                refine lv_aload_n hx hb d_OP_of_86 rfl (lv_at hl 0 rfl) ?_
                refine lv_null hx hb d_OP_of_87 ?_
                refine lv_null hx hb d_OP_of_88 ?_
                have hPc := hP.sub (ws' := [(on, .inr (4, [.int 0, .null, .null, .null]))]) [2] rfl
                have hDc := hD.sub (ws' := [(on, .inr (4, [.int 0, .null, .null, .null]))]) [2] (by decide) rfl
                have hFc := va_free (wc := [(on, .inr (4, [.int 0, .null, .null, .null]))]) hD hS hA [2] rfl
                have hKc := hK.sub (tys' := []) [] rfl
                refine va_callv (va_runI (As := [.int (nI (opK (mbR rows (LTx.getD 5 [])))), .ref yp, .null, .null]) (rest := [.ref on]) ⟨hx, hb, hml, hown, htb⟩ (k_OP_initN l dC dI _ on (nI (opK (mbR rows (LTx.getD 5 [])))) yp ) (cwI 4 htb (g_all (fun _ h => h) m_728) rfl rfl rfl (htb _ m_20) (htb _ m_726) (htb _ m_727) rfl (by decide +kernel) ⟨Nat.le_of_ble_eq_true rfl, Nat.le_of_ble_eq_true rfl⟩) ⟨fun a U g mk q => by obtain ⟨q0, q1, qP, qK, qD⟩ := q; exact ⟨q0, q1, qP, va_K.moved (u := U) (U := U.calling g mk a) (Vm.Alike.refl U.vm) qK, qD⟩, fun U hU hW => ⟨rfl, by rw [hU], by rw [hU]; exact hPc, va_K.moved hW.alike hKc, hDc.weaken (fun _ _ _ _ => trivial)⟩⟩ rfl rfl hl.1 rfl (lv_room (Nat.le_of_ble_eq_true rfl)) d_OP_of_89 ⟨(by show ((0 + (1 + 5 * (txR ((ksR rows).getD t12 [])).length)) + 1) ≤ (3 + 10 * tln rows); omega), (by show ((0 + (3 + 331 * (txR ((ksR rows).getD t12 [])).length)) + 4) ≤ (10 + 662 * tln rows); omega)⟩) hS (fun q _ h => hFc q h) hFc (fun u15 t H1 locs ht hvm hw17 hB hz1 hk1 hS => ?_)
                obtain ⟨hP1, hK1, hD1⟩ := hB
                rw [ht] at hP1
                have hK1 := va_K.moved hvm.symm hK1
                have hw17 : True := hw17
                obtain ⟨hP, hD⟩ := zz_joinN (pre := [(sb, .inr (13, [.ref x9, .int 0, .int w10, .int (nI w11.length)])), (x9, .inl (cB, w12, .inl w13)), (on, .inr (4, [.int 0, .null, .null, .null]))]) (fz := (w14 ++ fz)) (wc := [(on, .inr (4, [.int 0, .null, .null, .null]))]) (wr := [(sb, .inr (13, [.ref x9, .int 0, .int w10, .int (nI w11.length)])), (x9, .inl (cB, w12, .inl w13))]) (w1 := [(on, .inr (4, [.int (nI (opK (mbR rows (LTx.getD 5 [])))), .ref yp, .null, .null]))]) hP hD [2] [0, 1] rfl rfl (by decide) (by decide) hk1 hFc hP1 hD1
                have hK := (hK.sub (tys' := [(cO, .object "java/lang/Object"), (cB, .byte)]) [0, 1] rfl).app hK1
                generalize H1 = H at hP hS ⊢
                have hP : va_P (dC, dI) vwCl ([(sb, .inr (13, [.ref x9, .int 0, .int w10, .int (nI w11.length)])), (x9, .inl (cB, w12, .inl w13)), (on, .inr (4, [.int (nI (opK (mbR rows (LTx.getD 5 [])))), .ref yp, .null, .null]))] ++ (w14 ++ fz)) H := hP
                have hD : va_D A ([(sb, .inr (13, [.ref x9, .int 0, .int w10, .int (nI w11.length)])), (x9, .inl (cB, w12, .inl w13)), (on, .inr (4, [.int (nI (opK (mbR rows (LTx.getD 5 [])))), .ref yp, .null, .null]))] ++ (w14 ++ fz)) := hD
                have hK : va_K (dC, dI) vwCl [(cO, .object "java/lang/Object"), (cB, .byte)] s := hK
                have hP := zz_pickP (pre := [(sb, .inr (13, [.ref x9, .int 0, .int w10, .int (nI w11.length)])), (x9, .inl (cB, w12, .inl w13)), (on, .inr (4, [.int (nI (opK (mbR rows (LTx.getD 5 [])))), .ref yp, .null, .null]))]) (fz := (w14 ++ fz)) (wc := [(sb, .inr (13, [.ref x9, .int 0, .int w10, .int (nI w11.length)])), (x9, .inl (cB, w12, .inl w13)), (on, .inr (4, [.int (nI (opK (mbR rows (LTx.getD 5 [])))), .ref yp, .null, .null]))]) hP [0, 1, 2] rfl
                have hD := zz_pickD (pre := [(sb, .inr (13, [.ref x9, .int 0, .int w10, .int (nI w11.length)])), (x9, .inl (cB, w12, .inl w13)), (on, .inr (4, [.int (nI (opK (mbR rows (LTx.getD 5 [])))), .ref yp, .null, .null]))]) (fz := (w14 ++ fz)) (wc := [(sb, .inr (13, [.ref x9, .int 0, .int w10, .int (nI w11.length)])), (x9, .inl (cB, w12, .inl w13)), (on, .inr (4, [.int (nI (opK (mbR rows (LTx.getD 5 [])))), .ref yp, .null, .null]))]) hD [0, 1, 2] (by decide) rfl
                have hP : va_P (dC, dI) vwCl ([(sb, .inr (13, [.ref x9, .int 0, .int w10, .int (nI w11.length)])), (x9, .inl (cB, w12, .inl w13))] ++ ([(on, .inr (4, [.int (nI (opK (mbR rows (LTx.getD 5 [])))), .ref yp, .null, .null]))] ++ (w14 ++ fz))) _ := hP
                have hD : va_D A ([(sb, .inr (13, [.ref x9, .int 0, .int w10, .int (nI w11.length)])), (x9, .inl (cB, w12, .inl w13))] ++ ([(on, .inr (4, [.int (nI (opK (mbR rows (LTx.getD 5 [])))), .ref yp, .null, .null]))] ++ (w14 ++ fz))) := hD
                have hP := zz_permP (pre := [(sb, .inr (13, [.ref x9, .int 0, .int w10, .int (nI w11.length)])), (x9, .inl (cB, w12, .inl w13))]) (t1 := ([(on, .inr (4, [.int (nI (opK (mbR rows (LTx.getD 5 [])))), .ref yp, .null, .null]))] ++ (w14 ++ fz))) (t2 := (([(on, .inr (4, [.int (nI (opK (mbR rows (LTx.getD 5 [])))), .ref yp, .null, .null]))] ++ w14) ++ fz)) hP (pm2 _ _ _)
                have hD := zz_permD (pre := [(sb, .inr (13, [.ref x9, .int 0, .int w10, .int (nI w11.length)])), (x9, .inl (cB, w12, .inl w13))]) (t1 := ([(on, .inr (4, [.int (nI (opK (mbR rows (LTx.getD 5 [])))), .ref yp, .null, .null]))] ++ (w14 ++ fz))) (t2 := (([(on, .inr (4, [.int (nI (opK (mbR rows (LTx.getD 5 [])))), .ref yp, .null, .null]))] ++ w14) ++ fz)) hD (pm2 _ _ _)
                have hgT : ∀ q ∈ (w14 ++ fz), q ∈ (([(on, .inr (4, [.int (nI (opK (mbR rows (LTx.getD 5 [])))), .ref yp, .null, .null]))] ++ w14) ++ fz) := fun q hq => (pm2 _ _ _ : ((([(on, .inr (4, [.int (nI (opK (mbR rows (LTx.getD 5 [])))), .ref yp, .null, .null]))] : va_W) ++ w14) ++ fz).Perm (([(on, .inr (4, [.int (nI (opK (mbR rows (LTx.getD 5 [])))), .ref yp, .null, .null]))] : va_W) ++ (w14 ++ fz))).mem_iff.mpr (List.mem_append_right _ hq)
                have hoz : OPz cB cO em aK (([(on, .inr (4, [.int (nI (opK (mbR rows (LTx.getD 5 [])))), .ref yp, .null, .null]))] ++ w14) ++ fz) (2, sp, [], []) on := ⟨yp, hpp.mono hgT, Or.inr (Or.inl ⟨rfl, by rw [h7]; exact List.mem_append_left _ (List.mem_append_left _ List.mem_cons_self)⟩)⟩
                have hP9 := zz_pickP (pre := [(sb, .inr (13, [.ref x9, .int 0, .int w10, .int (nI w11.length)])), (x9, .inl (cB, w12, .inl w13))]) (fz := (([(on, .inr (4, [.int (nI (opK (mbR rows (LTx.getD 5 [])))), .ref yp, .null, .null]))] ++ w14) ++ fz)) (wc := [(sb, .inr (13, [.ref x9, .int 0, .int w10, .int (nI w11.length)])), (x9, .inl (cB, w12, .inl w13))]) hP [0, 1] rfl
                have hD9 := zz_pickD (pre := [(sb, .inr (13, [.ref x9, .int 0, .int w10, .int (nI w11.length)])), (x9, .inl (cB, w12, .inl w13))]) (fz := (([(on, .inr (4, [.int (nI (opK (mbR rows (LTx.getD 5 [])))), .ref yp, .null, .null]))] ++ w14) ++ fz)) (wc := [(sb, .inr (13, [.ref x9, .int 0, .int w10, .int (nI w11.length)])), (x9, .inl (cB, w12, .inl w13))]) hD [0, 1] (by decide) rfl
                have hK9 := hK.sub (tys' := [(cB, .byte), (cO, .object "java/lang/Object")]) [1, 0] rfl
                rw [hQ]
                refine W.widen (k := (3 + 10 * tln rows)) (n := (10 + 662 * tln rows)) ((by show ((0 + (1 + 5 * (txR ((ksR rows).getD t12 [])).length)) + 1) ≤ (3 + 10 * tln rows); omega)) ((by show ((0 + (3 + 331 * (txR ((ksR rows).getD t12 [])).length)) + 4) ≤ (10 + 662 * tln rows); omega)) ?_
                exact W.aret (v := .ref on) hx hb hr (Or.inl ⟨_, rfl⟩) (Or.inr ⟨_, rfl⟩) (fun t ht hW => ⟨⟨(some on), (w10, w11, w12, w13, ([(on, .inr (4, [.int (nI (opK (mbR rows (LTx.getD 5 [])))), .ref yp, .null, .null]))] ++ w14)), rfl, ⟨hB2, Or.inr ⟨_, _, rfl, hop, hoz⟩⟩, ⟨x9, by rw [ht]; exact hP9, va_K.moved hW.alike hK9, hD9⟩⟩, hS.F ht⟩) hS.2.2 d_OP_of_92
            · have h8 : (opK (mbR rows (LTx.getD 5 []))) = 5 := (nI_eq (by omega) (by decide)).mp h8
              have h45 : (opK (mbR rows (LTx.getD 5 []))) = 4 ∨ (opK (mbR rows (LTx.getD 5 []))) = 5 := Or.inr h8
              rw [if_neg h5, if_pos h45] at hop
              refine lv_aload_n hx hb d_OP_of_42 rfl (lv_at hl 2 rfl) ?_
              refine va_ldcS hx hb hown (lr_17 hE) d_OP_of_43 ?_
              have hli13 : TX cB aK (w14 ++ fz) (aK 13) (LTx.getD 13 []) := Or.inr ⟨13, by decide, rfl, rfl⟩
              have hPc := zz_pickP (pre := [(sb, .inr (13, [.ref x9, .int 0, .int w10, .int (nI w11.length)])), (x9, .inl (cB, w12, .inl w13))]) (fz := (w14 ++ fz)) (wc := []) hP [] rfl
              have hDc := zz_pickD (pre := [(sb, .inr (13, [.ref x9, .int 0, .int w10, .int (nI w11.length)])), (x9, .inl (cB, w12, .inl w13))]) (fz := (w14 ++ fz)) (wc := []) hD [] (by decide) rfl
              have hFc := zz_free (pre := [(sb, .inr (13, [.ref x9, .int 0, .int w10, .int (nI w11.length)])), (x9, .inl (cB, w12, .inl w13))]) (fz := (w14 ++ fz)) (wc := []) hD hS hA [] rfl
              have hKc := hK.sub (tys' := [(cB, .byte), (cO, .object "java/lang/Object")]) [1, 0] rfl
              refine va_callq (va_runV (As := [.ref (aK 13)]) (rest := []) ⟨hx, hb, hml, hown, htb⟩ (k_VA_member l dC dI _ a d nn rows (aK 13) (LTx.getD 13 []) cB cO em aK aV (w14 ++ fz) hv2 hli13) (cwV 1 htb (g_V (fun _ h => h) m_593 m_590 m_591 m_592 m_18) rfl rfl rfl (by decide +kernel) ⟨Nat.le_of_ble_eq_true rfl, Nat.le_of_ble_eq_true rfl⟩) ⟨fun a U g mk q => by obtain ⟨q0, q1, qP, qK, qD, z0⟩ := q; exact ⟨q0, q1, qP, va_K.moved (u := U) (U := U.calling g mk a) (Vm.Alike.refl U.vm) qK, qD, EX.same (U := U) (U' := U.calling g mk a) rfl z0⟩, zz_recv hK hP (ci := 3) rfl (List.mem_append_right _ (hv2).vin.choose_spec), fun U hU hW => ⟨rfl, by rw [hU], by rw [hU]; exact hPc, va_K.moved hW.alike hKc, hDc.weaken (fun _ _ _ _ => trivial), by rw [hU]; exact EX.warm hW ((hE.kept (fun a h1 h2 => hS.2.1 a h1 h2)).narrow hFc)⟩⟩ rfl rfl hl.1 rfl (lv_room (Nat.le_of_ble_eq_true rfl)) d_OP_of_45 ⟨(by show (0 + (1 + 5 * (txR ((ksR rows).getD t12 [])).length)) ≤ (3 + 10 * tln rows); omega), (by show (0 + (3 + 331 * (txR ((ksR rows).getD t12 [])).length)) ≤ (10 + 662 * tln rows); omega)⟩) hS (fun q _ h => hFc q h) hFc (fun r16 u15 t H1 locs ht hvm hw17 hB hz1 hk1 hS => ?_)
              obtain ⟨hP1, hK1, hD1⟩ := hB
              rw [ht] at hP1
              have hK1 := va_K.moved hvm.symm hK1
              have hw17 : (r16 = none ∧ mpl rows (LTx.getD 13 []) = none) ∨ ∃ t8 y8, r16 = some y8 ∧ mpl rows (LTx.getD 13 []) = some t8 ∧ t8 < (ksR rows).length ∧ VT cB cO em aK d (w14 ++ fz) y8 (LTx.getD 13 []) ((ksR rows).getD t8 []) := hw17
              obtain ⟨hP, hD⟩ := zz_join (pre := [(sb, .inr (13, [.ref x9, .int 0, .int w10, .int (nI w11.length)])), (x9, .inl (cB, w12, .inl w13))]) (fz := (w14 ++ fz)) (wc := []) (wr := [(sb, .inr (13, [.ref x9, .int 0, .int w10, .int (nI w11.length)])), (x9, .inl (cB, w12, .inl w13))]) (w1 := ([] ++ (w14 ++ fz))) hP hD [] [0, 1] rfl rfl (by decide) (by decide) hk1 hFc hP1 hD1
              have hK := (hK.sub (tys' := []) [] rfl).app hK1
              generalize H1 = H at hP hS ⊢
              have hP : va_P (dC, dI) vwCl ([(sb, .inr (13, [.ref x9, .int 0, .int w10, .int (nI w11.length)])), (x9, .inl (cB, w12, .inl w13))] ++ (w14 ++ fz)) H := hP
              have hD : va_D A ([(sb, .inr (13, [.ref x9, .int 0, .int w10, .int (nI w11.length)])), (x9, .inl (cB, w12, .inl w13))] ++ (w14 ++ fz)) := hD
              have hK : va_K (dC, dI) vwCl [(cB, .byte), (cO, .object "java/lang/Object")] s := hK
              obtain ⟨rfl, hmp⟩ | ⟨t13, y13, rfl, hmp, htl13, hvm13⟩ := hw17
              · refine W.eq (g2 := F0 m 48 ls [.null]) rfl ?_
                have hmb13 : mbR rows (LTx.getD 13 []) = none := by rw [mbR, hmp]; rfl
                refine lv_aload_n hx hb d_OP_of_48 rfl (lv_at hl 3 rfl) ?_
                have hPc := hP.sub (ws' := []) [] rfl
                have hDc := hD.sub (ws' := []) [] (by decide) rfl
                have hFc := va_free (wc := []) hD hS hA [] rfl
                have hKc := hK.sub (tys' := []) [] rfl
                refine va_callq (va_runS (As := [.null, .ref sb]) (rest := []) ⟨hx, hb, hml, hown, htb⟩ (k_PT_ofN l dC dI _ sb x9 w10 cB w13 w12 w11 ) (va_cwS 2 htb (g_S (fun _ h => h) m_612 m_610 m_611 m_21) rfl rfl rfl (by decide +kernel) ⟨Nat.le_of_ble_eq_true rfl, Nat.le_of_ble_eq_true rfl⟩) ⟨fun a U g mk q => by obtain ⟨q0, q1, qP, qK, qD⟩ := q; exact ⟨q0, q1, qP, va_K.moved (u := U) (U := U.calling g mk a) (Vm.Alike.refl U.vm) qK, qD⟩, fun U hU hW => ⟨rfl, by rw [hU], by rw [hU]; exact hPc, va_K.moved hW.alike hKc, hDc.weaken (fun _ _ _ _ => trivial)⟩⟩ rfl rfl hl.1 rfl (lv_room (Nat.le_of_ble_eq_true rfl)) d_OP_of_49 ⟨(by show (0 + (1 + 5 * (txR ((ksR rows).getD t12 [])).length)) ≤ (3 + 10 * tln rows); omega), (by show (0 + (3 + 331 * (txR ((ksR rows).getD t12 [])).length)) ≤ (10 + 662 * tln rows); omega)⟩) hS (fun q _ h => hFc q h) hFc (fun r20 u19 t H1 locs ht hvm hw21 hB hz1 hk1 hS => ?_)
                obtain ⟨hP1, hK1, hD1⟩ := hB
                rw [ht] at hP1
                have hK1 := va_K.moved hvm.symm hK1
                have hw21 : r20 = none := hw21
                obtain ⟨hP, hD⟩ := zz_joinN (pre := [(sb, .inr (13, [.ref x9, .int 0, .int w10, .int (nI w11.length)])), (x9, .inl (cB, w12, .inl w13))]) (fz := (w14 ++ fz)) (wc := []) (wr := [(sb, .inr (13, [.ref x9, .int 0, .int w10, .int (nI w11.length)])), (x9, .inl (cB, w12, .inl w13))]) (w1 := []) hP hD [] [0, 1] rfl rfl (by decide) (by decide) hk1 hFc hP1 hD1
                have hK := (hK.sub (tys' := [(cB, .byte), (cO, .object "java/lang/Object")]) [0, 1] rfl).app hK1
                generalize H1 = H at hP hS ⊢
                have hP : va_P (dC, dI) vwCl ([(sb, .inr (13, [.ref x9, .int 0, .int w10, .int (nI w11.length)])), (x9, .inl (cB, w12, .inl w13))] ++ (w14 ++ fz)) H := hP
                have hD : va_D A ([(sb, .inr (13, [.ref x9, .int 0, .int w10, .int (nI w11.length)])), (x9, .inl (cB, w12, .inl w13))] ++ (w14 ++ fz)) := hD
                have hK : va_K (dC, dI) vwCl [(cB, .byte), (cO, .object "java/lang/Object")] s := hK
                obtain rfl := hw21
                refine W.eq (g2 := F0 m 52 ls [.null]) rfl ?_
                refine lv_astoreN hx hb d_OP_of_52 hl (by decide) rfl (fun ls hl => ?_)
                have hl : lv_has ls 5 [(4, .null), (3, .ref yp), (2, .int (nI (opK (mbR rows (LTx.getD 5 []))))), (0, .ref a), (1, .ref sb)] := hl
                refine lv_aloadN hx hb d_OP_of_54 (lv_at hl 0 rfl) ?_
                refine lv_ifnonnullN hx hb d_OP_of_56 ?_
                refine lv_null hx hb d_OP_of_59 ?_
                refine lv_goto (tgt := 75) hx hb d_OP_of_60 rfl ?_
                have hP9 := zz_pickP (pre := [(sb, .inr (13, [.ref x9, .int 0, .int w10, .int (nI w11.length)])), (x9, .inl (cB, w12, .inl w13))]) (fz := (w14 ++ fz)) (wc := [(sb, .inr (13, [.ref x9, .int 0, .int w10, .int (nI w11.length)])), (x9, .inl (cB, w12, .inl w13))]) hP [0, 1] rfl
                have hD9 := zz_pickD (pre := [(sb, .inr (13, [.ref x9, .int 0, .int w10, .int (nI w11.length)])), (x9, .inl (cB, w12, .inl w13))]) (fz := (w14 ++ fz)) (wc := [(sb, .inr (13, [.ref x9, .int 0, .int w10, .int (nI w11.length)])), (x9, .inl (cB, w12, .inl w13))]) hD [0, 1] (by decide) rfl
                have hK9 := hK.sub (tys' := [(cB, .byte), (cO, .object "java/lang/Object")]) [0, 1] rfl
                rw [hQ]
                refine W.widen (k := (3 + 10 * tln rows)) (n := (10 + 662 * tln rows)) ((by show (0 + (1 + 5 * (txR ((ksR rows).getD t12 [])).length)) ≤ (3 + 10 * tln rows); omega)) ((by show (0 + (3 + 331 * (txR ((ksR rows).getD t12 [])).length)) ≤ (10 + 662 * tln rows); omega)) ?_
                exact W.aret (v := .null) hx hb hr (Or.inl ⟨_, rfl⟩) (Or.inl rfl) (fun t ht hW => ⟨⟨none, (w10, w11, w12, w13, w14), rfl, ⟨hB2, Or.inl ⟨rfl, by rw [hop, hmb13]; rfl⟩⟩, ⟨x9, by rw [ht]; exact hP9, va_K.moved hW.alike hK9, hD9⟩⟩, hS.F ht⟩) hS.2.2 d_OP_of_75
              · refine W.eq (g2 := F0 m 48 ls [.ref y13]) rfl ?_
                have hmb13 : mbR rows (LTx.getD 13 []) = some ((ksR rows).getD t13 []) := by rw [mbR, hmp]; rfl
                obtain ⟨d3, hd3⟩ := hvm13.succ
                have hv13 : VT cB cO em aK (d3 + 1) (w14 ++ fz) y13 (LTx.getD 13 []) ((ksR rows).getD t13 []) := hd3 ▸ hvm13
                have hln13 := tln_mb hwr hmb13
                refine lv_aload_n hx hb d_OP_of_48 rfl (lv_at hl 3 rfl) ?_
                have hPc := zz_pickP (pre := [(sb, .inr (13, [.ref x9, .int 0, .int w10, .int (nI w11.length)])), (x9, .inl (cB, w12, .inl w13))]) (fz := (w14 ++ fz)) (wc := [(sb, .inr (13, [.ref x9, .int 0, .int w10, .int (nI w11.length)])), (x9, .inl (cB, w12, .inl w13))]) hP [0, 1] rfl
                have hDc := zz_pickD (pre := [(sb, .inr (13, [.ref x9, .int 0, .int w10, .int (nI w11.length)])), (x9, .inl (cB, w12, .inl w13))]) (fz := (w14 ++ fz)) (wc := [(sb, .inr (13, [.ref x9, .int 0, .int w10, .int (nI w11.length)])), (x9, .inl (cB, w12, .inl w13))]) hD [0, 1] (by decide) rfl
                have hFc := zz_free (pre := [(sb, .inr (13, [.ref x9, .int 0, .int w10, .int (nI w11.length)])), (x9, .inl (cB, w12, .inl w13))]) (fz := (w14 ++ fz)) (wc := [(sb, .inr (13, [.ref x9, .int 0, .int w10, .int (nI w11.length)])), (x9, .inl (cB, w12, .inl w13))]) hD hS hA [0, 1] rfl
                have hKc := hK.sub (tys' := [(cB, .byte)]) [0] rfl
                refine va_callq (va_runS (As := [.ref y13, .ref sb]) (rest := []) ⟨hx, hb, hml, hown, htb⟩ (k_PT_of l dC dI _ y13 d3 (LTx.getD 13 []) ((ksR rows).getD t13 []) sb x9 w10 cB w13 w12 w11 cO em aK aV (w14 ++ fz) hv13 hB2 hv13.txlen) (va_cwS 2 htb (g_S (fun _ h => h) m_612 m_610 m_611 m_21) rfl rfl rfl (by decide +kernel) ⟨Nat.le_of_ble_eq_true rfl, Nat.le_of_ble_eq_true rfl⟩) ⟨fun a U g mk q => by obtain ⟨q0, q1, qP, qK, qD, z0⟩ := q; exact ⟨q0, q1, qP, va_K.moved (u := U) (U := U.calling g mk a) (Vm.Alike.refl U.vm) qK, qD, EX.same (U := U) (U' := U.calling g mk a) rfl z0⟩, fun U hU hW => ⟨rfl, by rw [hU], by rw [hU]; exact hPc, va_K.moved hW.alike hKc, hDc.weaken (fun _ _ _ _ => trivial), by rw [hU]; exact EX.warm hW ((hE.kept (fun a h1 h2 => hS.2.1 a h1 h2)).narrow hFc)⟩⟩ rfl rfl hl.1 rfl (lv_room (Nat.le_of_ble_eq_true rfl)) d_OP_of_49 ⟨(by show ((0 + (1 + 5 * (txR ((ksR rows).getD t12 [])).length)) + (1 + 5 * (txR ((ksR rows).getD t13 [])).length)) ≤ (3 + 10 * tln rows); omega), (by show ((0 + (3 + 331 * (txR ((ksR rows).getD t12 [])).length)) + (3 + 331 * (txR ((ksR rows).getD t13 [])).length)) ≤ (10 + 662 * tln rows); omega)⟩) hS (fun q _ h => hFc q h) hFc (fun r20 u19 t H1 locs ht hvm hw21 hB hz1 hk1 hS => ?_)
                obtain ⟨x23, hP1, hK1, hD1⟩ := hB
                rw [ht] at hP1
                have hK1 := va_K.moved hvm.symm hK1
                obtain ⟨w24, w25, w26, w27, w28⟩ := u19
                have hw21 : Bld w25 w26 w27 ∧ ((r20 = none ∧ (¬ hdK ((ksR rows).getD t13 []) = 4 ∨ ptr (txR ((ksR rows).getD t13 [])) = none)) ∨ ∃ y8 s8, r20 = some y8 ∧ hdK ((ksR rows).getD t13 []) = 4 ∧ ptr (txR ((ksR rows).getD t13 [])) = some s8 ∧ PTz cB aK (w28 ++ (w14 ++ fz)) s8 y8) := hw21
                obtain ⟨hP, hD⟩ := zz_join (pre := [(sb, .inr (13, [.ref x9, .int 0, .int w10, .int (nI w11.length)])), (x9, .inl (cB, w12, .inl w13))]) (fz := (w14 ++ fz)) (wc := [(sb, .inr (13, [.ref x9, .int 0, .int w10, .int (nI w11.length)])), (x9, .inl (cB, w12, .inl w13))]) (wr := []) (w1 := ([(sb, .inr (13, [.ref x23, .int 0, .int w24, .int (nI w25.length)])), (x23, .inl (cB, w26, .inl w27))] ++ (w28 ++ (w14 ++ fz)))) hP hD [0, 1] [] rfl rfl (by decide) (by decide) hk1 hFc hP1 hD1
                have hK := (hK.sub (tys' := [(cO, .object "java/lang/Object")]) [1] rfl).app hK1
                generalize H1 = H at hP hS ⊢
                have hP : va_P (dC, dI) vwCl ([(sb, .inr (13, [.ref x23, .int 0, .int w24, .int (nI w25.length)])), (x23, .inl (cB, w26, .inl w27))] ++ (w28 ++ (w14 ++ fz))) H := hP
                have hD : va_D A ([(sb, .inr (13, [.ref x23, .int 0, .int w24, .int (nI w25.length)])), (x23, .inl (cB, w26, .inl w27))] ++ (w28 ++ (w14 ++ fz))) := hD
                have hK : va_K (dC, dI) vwCl [(cO, .object "java/lang/Object"), (cB, .byte)] s := hK
                obtain ⟨hB3, ⟨rfl, hfb⟩ | ⟨yf, sf, rfl, hf4, hfs, hfp⟩⟩ := hw21
                · refine W.eq (g2 := F0 m 52 ls [.null]) rfl ?_
                  refine lv_astoreN hx hb d_OP_of_52 hl (by decide) rfl (fun ls hl => ?_)
                  have hl : lv_has ls 5 [(4, .null), (3, .ref yp), (2, .int (nI (opK (mbR rows (LTx.getD 5 []))))), (0, .ref a), (1, .ref sb)] := hl
                  refine lv_aloadN hx hb d_OP_of_54 (lv_at hl 0 rfl) ?_
                  refine lv_ifnonnullN hx hb d_OP_of_56 ?_
                  refine lv_null hx hb d_OP_of_59 ?_
                  refine lv_goto (tgt := 75) hx hb d_OP_of_60 rfl ?_
                  have hP := zz_permP (pre := [(sb, .inr (13, [.ref x23, .int 0, .int w24, .int (nI w25.length)])), (x23, .inl (cB, w26, .inl w27))]) (t1 := (w28 ++ (w14 ++ fz))) (t2 := ((w28 ++ w14) ++ fz)) hP (pm2 _ _ _)
                  have hD := zz_permD (pre := [(sb, .inr (13, [.ref x23, .int 0, .int w24, .int (nI w25.length)])), (x23, .inl (cB, w26, .inl w27))]) (t1 := (w28 ++ (w14 ++ fz))) (t2 := ((w28 ++ w14) ++ fz)) hD (pm2 _ _ _)
                  have hP9 := zz_pickP (pre := [(sb, .inr (13, [.ref x23, .int 0, .int w24, .int (nI w25.length)])), (x23, .inl (cB, w26, .inl w27))]) (fz := ((w28 ++ w14) ++ fz)) (wc := [(sb, .inr (13, [.ref x23, .int 0, .int w24, .int (nI w25.length)])), (x23, .inl (cB, w26, .inl w27))]) hP [0, 1] rfl
                  have hD9 := zz_pickD (pre := [(sb, .inr (13, [.ref x23, .int 0, .int w24, .int (nI w25.length)])), (x23, .inl (cB, w26, .inl w27))]) (fz := ((w28 ++ w14) ++ fz)) (wc := [(sb, .inr (13, [.ref x23, .int 0, .int w24, .int (nI w25.length)])), (x23, .inl (cB, w26, .inl w27))]) hD [0, 1] (by decide) rfl
                  have hK9 := hK.sub (tys' := [(cB, .byte), (cO, .object "java/lang/Object")]) [1, 0] rfl
                  rw [hQ]
                  refine W.widen (k := (3 + 10 * tln rows)) (n := (10 + 662 * tln rows)) ((by show ((0 + (1 + 5 * (txR ((ksR rows).getD t12 [])).length)) + (1 + 5 * (txR ((ksR rows).getD t13 [])).length)) ≤ (3 + 10 * tln rows); omega)) ((by show ((0 + (3 + 331 * (txR ((ksR rows).getD t12 [])).length)) + (3 + 331 * (txR ((ksR rows).getD t13 [])).length)) ≤ (10 + 662 * tln rows); omega)) ?_
                  exact W.aret (v := .null) hx hb hr (Or.inl ⟨_, rfl⟩) (Or.inl rfl) (fun t ht hW => ⟨⟨none, (w24, w25, w26, w27, (w28 ++ w14)), rfl, ⟨hB3, Or.inl ⟨rfl, by rw [hop, hmb13, opP_none hfb]; rfl⟩⟩, ⟨x23, by rw [ht]; exact hP9, va_K.moved hW.alike hK9, hD9⟩⟩, hS.F ht⟩) hS.2.2 d_OP_of_75
                · refine W.eq (g2 := F0 m 52 ls [.ref yf]) rfl ?_
                  refine lv_astore hx hb d_OP_of_52 hl (by decide) rfl (fun ls hl => ?_)
                  have hl : lv_has ls 5 [(4, .ref yf), (3, .ref yp), (2, .int (nI (opK (mbR rows (LTx.getD 5 []))))), (0, .ref a), (1, .ref sb)] := hl
                  refine lv_aload hx hb d_OP_of_54 (lv_at hl 0 rfl) ?_
                  refine lv_ifnonnull (tgt := 63) hx hb d_OP_of_56 rfl ?_
                  refine va_new (ci := 4) (fs := [.int 0, .null, .null, .null]) (C := R_OP) (T := T_OP) (N := 4) hx hb htb in_OP ty_OP ty_OP_ok hown (htb _ m_724) (htb _ m_725) (htb _ m_20) hK hP hD hS hA rfl (fun j hj => by rcases (show j = 0 ∨ j = 1 ∨ j = 2 ∨ j = 3 by omega) with rfl | rfl | rfl | rfl <;> rfl) ((by show (((0 + (1 + 5 * (txR ((ksR rows).getD t12 [])).length)) + (1 + 5 * (txR ((ksR rows).getD t13 [])).length)) + 1) ≤ (3 + 10 * tln rows); omega)) ((by show (((0 + (3 + 331 * (txR ((ksR rows).getD t12 [])).length)) + (3 + 331 * (txR ((ksR rows).getD t13 [])).length)) + 4) ≤ (10 + 662 * tln rows); omega)) d_OP_of_63 (fun on H hP hD hS => ?_)
                  have hP := zz_rotP (pre := [(sb, .inr (13, [.ref x23, .int 0, .int w24, .int (nI w25.length)])), (x23, .inl (cB, w26, .inl w27))]) (fz := (w28 ++ (w14 ++ fz))) hP
                  have hD := zz_rotD (pre := [(sb, .inr (13, [.ref x23, .int 0, .int w24, .int (nI w25.length)])), (x23, .inl (cB, w26, .inl w27))]) (fz := (w28 ++ (w14 ++ fz))) hD
                  have hP : va_P (dC, dI) vwCl ([(sb, .inr (13, [.ref x23, .int 0, .int w24, .int (nI w25.length)])), (x23, .inl (cB, w26, .inl w27)), (on, .inr (4, [.int 0, .null, .null, .null]))] ++ (w28 ++ (w14 ++ fz))) H := hP
                  have hD : va_D A ([(sb, .inr (13, [.ref x23, .int 0, .int w24, .int (nI w25.length)])), (x23, .inl (cB, w26, .inl w27)), (on, .inr (4, [.int 0, .null, .null, .null]))] ++ (w28 ++ (w14 ++ fz))) := hD
                  refine lv_dup hx hb d_OP_of_66 rfl ?_
                  refine lv_iload_n hx hb d_OP_of_67 rfl (lv_at hl 2 rfl) ?_
                  refine lv_aload_n hx hb d_OP_of_68 rfl (lv_at hl 1 rfl) ?_
                  refine lv_aload hx hb d_OP_of_69 (lv_at hl 0 rfl) ?_
                  refine lv_null hx hb d_OP_of_71 ?_
                  have hPc := hP.sub (ws' := [(on, .inr (4, [.int 0, .null, .null, .null]))]) [2] rfl
                  have hDc := hD.sub (ws' := [(on, .inr (4, [.int 0, .null, .null, .null]))]) [2] (by decide) rfl
                  have hFc := va_free (wc := [(on, .inr (4, [.int 0, .null, .null, .null]))]) hD hS hA [2] rfl
                  have hKc := hK.sub (tys' := []) [] rfl
                  refine va_callv (va_runI (As := [.int (nI (opK (mbR rows (LTx.getD 5 [])))), .ref yp, .ref yf, .null]) (rest := [.ref on]) ⟨hx, hb, hml, hown, htb⟩ (k_OP_initF l dC dI _ on (nI (opK (mbR rows (LTx.getD 5 [])))) yp yf ) (cwI 4 htb (g_all (fun _ h => h) m_728) rfl rfl rfl (htb _ m_20) (htb _ m_726) (htb _ m_727) rfl (by decide +kernel) ⟨Nat.le_of_ble_eq_true rfl, Nat.le_of_ble_eq_true rfl⟩) ⟨fun a U g mk q => by obtain ⟨q0, q1, qP, qK, qD⟩ := q; exact ⟨q0, q1, qP, va_K.moved (u := U) (U := U.calling g mk a) (Vm.Alike.refl U.vm) qK, qD⟩, fun U hU hW => ⟨rfl, by rw [hU], by rw [hU]; exact hPc, va_K.moved hW.alike hKc, hDc.weaken (fun _ _ _ _ => trivial)⟩⟩ rfl rfl hl.1 rfl (lv_room (Nat.le_of_ble_eq_true rfl)) d_OP_of_72 ⟨(by show (((0 + (1 + 5 * (txR ((ksR rows).getD t12 [])).length)) + (1 + 5 * (txR ((ksR rows).getD t13 [])).length)) + 1) ≤ (3 + 10 * tln rows); omega), (by show (((0 + (3 + 331 * (txR ((ksR rows).getD t12 [])).length)) + (3 + 331 * (txR ((ksR rows).getD t13 [])).length)) + 4) ≤ (10 + 662 * tln rows); omega)⟩) hS (fun q _ h => hFc q h) hFc (fun u29 t H1 locs ht hvm hw31 hB hz1 hk1 hS => ?_)
                  obtain ⟨hP1, hK1, hD1⟩ := hB
                  rw [ht] at hP1
                  have hK1 := va_K.moved hvm.symm hK1
                  have hw31 : True := hw31
                  obtain ⟨hP, hD⟩ := zz_joinN (pre := [(sb, .inr (13, [.ref x23, .int 0, .int w24, .int (nI w25.length)])), (x23, .inl (cB, w26, .inl w27)), (on, .inr (4, [.int 0, .null, .null, .null]))]) (fz := (w28 ++ (w14 ++ fz))) (wc := [(on, .inr (4, [.int 0, .null, .null, .null]))]) (wr := [(sb, .inr (13, [.ref x23, .int 0, .int w24, .int (nI w25.length)])), (x23, .inl (cB, w26, .inl w27))]) (w1 := [(on, .inr (4, [.int (nI (opK (mbR rows (LTx.getD 5 [])))), .ref yp, .ref yf, .null]))]) hP hD [2] [0, 1] rfl rfl (by decide) (by decide) hk1 hFc hP1 hD1
                  have hK := (hK.sub (tys' := [(cO, .object "java/lang/Object"), (cB, .byte)]) [0, 1] rfl).app hK1
                  generalize H1 = H at hP hS ⊢
                  have hP : va_P (dC, dI) vwCl ([(sb, .inr (13, [.ref x23, .int 0, .int w24, .int (nI w25.length)])), (x23, .inl (cB, w26, .inl w27)), (on, .inr (4, [.int (nI (opK (mbR rows (LTx.getD 5 [])))), .ref yp, .ref yf, .null]))] ++ (w28 ++ (w14 ++ fz))) H := hP
                  have hD : va_D A ([(sb, .inr (13, [.ref x23, .int 0, .int w24, .int (nI w25.length)])), (x23, .inl (cB, w26, .inl w27)), (on, .inr (4, [.int (nI (opK (mbR rows (LTx.getD 5 [])))), .ref yp, .ref yf, .null]))] ++ (w28 ++ (w14 ++ fz))) := hD
                  have hK : va_K (dC, dI) vwCl [(cO, .object "java/lang/Object"), (cB, .byte)] s := hK
                  have hP := zz_pickP (pre := [(sb, .inr (13, [.ref x23, .int 0, .int w24, .int (nI w25.length)])), (x23, .inl (cB, w26, .inl w27)), (on, .inr (4, [.int (nI (opK (mbR rows (LTx.getD 5 [])))), .ref yp, .ref yf, .null]))]) (fz := (w28 ++ (w14 ++ fz))) (wc := [(sb, .inr (13, [.ref x23, .int 0, .int w24, .int (nI w25.length)])), (x23, .inl (cB, w26, .inl w27)), (on, .inr (4, [.int (nI (opK (mbR rows (LTx.getD 5 [])))), .ref yp, .ref yf, .null]))]) hP [0, 1, 2] rfl
                  have hD := zz_pickD (pre := [(sb, .inr (13, [.ref x23, .int 0, .int w24, .int (nI w25.length)])), (x23, .inl (cB, w26, .inl w27)), (on, .inr (4, [.int (nI (opK (mbR rows (LTx.getD 5 [])))), .ref yp, .ref yf, .null]))]) (fz := (w28 ++ (w14 ++ fz))) (wc := [(sb, .inr (13, [.ref x23, .int 0, .int w24, .int (nI w25.length)])), (x23, .inl (cB, w26, .inl w27)), (on, .inr (4, [.int (nI (opK (mbR rows (LTx.getD 5 [])))), .ref yp, .ref yf, .null]))]) hD [0, 1, 2] (by decide) rfl
                  have hP : va_P (dC, dI) vwCl ([(sb, .inr (13, [.ref x23, .int 0, .int w24, .int (nI w25.length)])), (x23, .inl (cB, w26, .inl w27))] ++ ([(on, .inr (4, [.int (nI (opK (mbR rows (LTx.getD 5 [])))), .ref yp, .ref yf, .null]))] ++ (w28 ++ (w14 ++ fz)))) _ := hP
                  have hD : va_D A ([(sb, .inr (13, [.ref x23, .int 0, .int w24, .int (nI w25.length)])), (x23, .inl (cB, w26, .inl w27))] ++ ([(on, .inr (4, [.int (nI (opK (mbR rows (LTx.getD 5 [])))), .ref yp, .ref yf, .null]))] ++ (w28 ++ (w14 ++ fz)))) := hD
                  have hP := zz_permP (pre := [(sb, .inr (13, [.ref x23, .int 0, .int w24, .int (nI w25.length)])), (x23, .inl (cB, w26, .inl w27))]) (t1 := ([(on, .inr (4, [.int (nI (opK (mbR rows (LTx.getD 5 [])))), .ref yp, .ref yf, .null]))] ++ (w28 ++ (w14 ++ fz)))) (t2 := (([(on, .inr (4, [.int (nI (opK (mbR rows (LTx.getD 5 [])))), .ref yp, .ref yf, .null]))] ++ (w28 ++ w14)) ++ fz)) hP (pm3 _ _ _ _)
                  have hD := zz_permD (pre := [(sb, .inr (13, [.ref x23, .int 0, .int w24, .int (nI w25.length)])), (x23, .inl (cB, w26, .inl w27))]) (t1 := ([(on, .inr (4, [.int (nI (opK (mbR rows (LTx.getD 5 [])))), .ref yp, .ref yf, .null]))] ++ (w28 ++ (w14 ++ fz)))) (t2 := (([(on, .inr (4, [.int (nI (opK (mbR rows (LTx.getD 5 [])))), .ref yp, .ref yf, .null]))] ++ (w28 ++ w14)) ++ fz)) hD (pm3 _ _ _ _)
                  have hgT : ∀ q ∈ (w28 ++ (w14 ++ fz)), q ∈ (([(on, .inr (4, [.int (nI (opK (mbR rows (LTx.getD 5 [])))), .ref yp, .ref yf, .null]))] ++ (w28 ++ w14)) ++ fz) := fun q hq => (pm3 _ _ _ _ : ((([(on, .inr (4, [.int (nI (opK (mbR rows (LTx.getD 5 [])))), .ref yp, .ref yf, .null]))] : va_W) ++ (w28 ++ w14)) ++ fz).Perm (([(on, .inr (4, [.int (nI (opK (mbR rows (LTx.getD 5 [])))), .ref yp, .ref yf, .null]))] : va_W) ++ (w28 ++ (w14 ++ fz)))).mem_iff.mpr (List.mem_append_right _ hq)
                  have hoz : OPz cB cO em aK (([(on, .inr (4, [.int (nI (opK (mbR rows (LTx.getD 5 [])))), .ref yp, .ref yf, .null]))] ++ (w28 ++ w14)) ++ fz) ((opK (mbR rows (LTx.getD 5 []))), sp, sf, []) on := ⟨yp, hpp.mono (fun q hq => hgT q (List.mem_append_right _ hq)), Or.inl ⟨h45, yf, List.mem_append_left _ (List.mem_append_left _ List.mem_cons_self), hfp.mono hgT⟩⟩
                  have hP9 := zz_pickP (pre := [(sb, .inr (13, [.ref x23, .int 0, .int w24, .int (nI w25.length)])), (x23, .inl (cB, w26, .inl w27))]) (fz := (([(on, .inr (4, [.int (nI (opK (mbR rows (LTx.getD 5 [])))), .ref yp, .ref yf, .null]))] ++ (w28 ++ w14)) ++ fz)) (wc := [(sb, .inr (13, [.ref x23, .int 0, .int w24, .int (nI w25.length)])), (x23, .inl (cB, w26, .inl w27))]) hP [0, 1] rfl
                  have hD9 := zz_pickD (pre := [(sb, .inr (13, [.ref x23, .int 0, .int w24, .int (nI w25.length)])), (x23, .inl (cB, w26, .inl w27))]) (fz := (([(on, .inr (4, [.int (nI (opK (mbR rows (LTx.getD 5 [])))), .ref yp, .ref yf, .null]))] ++ (w28 ++ w14)) ++ fz)) (wc := [(sb, .inr (13, [.ref x23, .int 0, .int w24, .int (nI w25.length)])), (x23, .inl (cB, w26, .inl w27))]) hD [0, 1] (by decide) rfl
                  have hK9 := hK.sub (tys' := [(cB, .byte), (cO, .object "java/lang/Object")]) [1, 0] rfl
                  rw [hQ]
                  refine W.widen (k := (3 + 10 * tln rows)) (n := (10 + 662 * tln rows)) ((by show (((0 + (1 + 5 * (txR ((ksR rows).getD t12 [])).length)) + (1 + 5 * (txR ((ksR rows).getD t13 [])).length)) + 1) ≤ (3 + 10 * tln rows); omega)) ((by show (((0 + (3 + 331 * (txR ((ksR rows).getD t12 [])).length)) + (3 + 331 * (txR ((ksR rows).getD t13 [])).length)) + 4) ≤ (10 + 662 * tln rows); omega)) ?_
                  exact W.aret (v := .ref on) hx hb hr (Or.inl ⟨_, rfl⟩) (Or.inr ⟨_, rfl⟩) (fun t ht hW => ⟨⟨(some on), (w24, w25, w26, w27, ([(on, .inr (4, [.int (nI (opK (mbR rows (LTx.getD 5 [])))), .ref yp, .ref yf, .null]))] ++ (w28 ++ w14))), rfl, ⟨hB3, Or.inr ⟨_, _, rfl, by rw [hop, hmb13, opP_some hf4 hfs]; rfl, hoz⟩⟩, ⟨x23, by rw [ht]; exact hP9, va_K.moved hW.alike hK9, hD9⟩⟩, hS.F ht⟩) hS.2.2 d_OP_of_75
  refine lv_aload_n hx hb d_OP_of_0 rfl (lv_at hl 0 rfl) ?_
  refine va_ldcS hx hb hown (lr_6 hE) d_OP_of_1 ?_
  have hli5 : TX cB aK fz (aK 5) (LTx.getD 5 []) := Or.inr ⟨5, by decide, rfl, rfl⟩
  have hPc := zz_pickP (pre := [(sb, .inr (13, [.ref bv, .int 0, .int ml, .int (nI tx.length)])), (bv, .inl (cB, cap, .inl g))]) (fz := fz) (wc := []) hP [] rfl
  have hDc := zz_pickD (pre := [(sb, .inr (13, [.ref bv, .int 0, .int ml, .int (nI tx.length)])), (bv, .inl (cB, cap, .inl g))]) (fz := fz) (wc := []) hD [] (by decide) rfl
  have hFc := zz_free (pre := [(sb, .inr (13, [.ref bv, .int 0, .int ml, .int (nI tx.length)])), (bv, .inl (cB, cap, .inl g))]) (fz := fz) (wc := []) hD hS hA [] rfl
  have hKc := hK.sub (tys' := [(cB, .byte), (cO, .object "java/lang/Object")]) [0, 1] rfl
  refine va_callq (va_runV (As := [.ref (aK 5)]) (rest := []) ⟨hx, hb, hml, hown, htb⟩ (k_VA_member l dC dI _ a d nn rows (aK 5) (LTx.getD 5 []) cB cO em aK aV fz hv hli5) (cwV 1 htb (g_V (fun _ h => h) m_593 m_590 m_591 m_592 m_18) rfl rfl rfl (by decide +kernel) ⟨Nat.le_of_ble_eq_true rfl, Nat.le_of_ble_eq_true rfl⟩) ⟨fun a U g mk q => by obtain ⟨q0, q1, qP, qK, qD, z0⟩ := q; exact ⟨q0, q1, qP, va_K.moved (u := U) (U := U.calling g mk a) (Vm.Alike.refl U.vm) qK, qD, EX.same (U := U) (U' := U.calling g mk a) rfl z0⟩, zz_recv hK hP (ci := 3) rfl (List.mem_append_right _ (hv).vin.choose_spec), fun U hU hW => ⟨rfl, by rw [hU], by rw [hU]; exact hPc, va_K.moved hW.alike hKc, hDc.weaken (fun _ _ _ _ => trivial), by rw [hU]; exact EX.warm hW ((hE.kept (fun a h1 h2 => hS.2.1 a h1 h2)).narrow hFc)⟩⟩ rfl rfl hl.1 rfl (lv_room (Nat.le_of_ble_eq_true rfl)) d_OP_of_3 ⟨(by show 0 ≤ (3 + 10 * tln rows); omega), (by show 0 ≤ (10 + 662 * tln rows); omega)⟩) hS (fun q _ h => hFc q h) hFc (fun r2 u1 t H1 locs ht hvm hw3 hB hz1 hk1 hS => ?_)
  obtain ⟨hP1, hK1, hD1⟩ := hB
  rw [ht] at hP1
  have hK1 := va_K.moved hvm.symm hK1
  have hw3 : (r2 = none ∧ mpl rows (LTx.getD 5 []) = none) ∨ ∃ t8 y8, r2 = some y8 ∧ mpl rows (LTx.getD 5 []) = some t8 ∧ t8 < (ksR rows).length ∧ VT cB cO em aK d fz y8 (LTx.getD 5 []) ((ksR rows).getD t8 []) := hw3
  obtain ⟨hP, hD⟩ := zz_join (pre := [(sb, .inr (13, [.ref bv, .int 0, .int ml, .int (nI tx.length)])), (bv, .inl (cB, cap, .inl g))]) (fz := fz) (wc := []) (wr := [(sb, .inr (13, [.ref bv, .int 0, .int ml, .int (nI tx.length)])), (bv, .inl (cB, cap, .inl g))]) (w1 := ([] ++ fz)) hP hD [] [0, 1] rfl rfl (by decide) (by decide) hk1 hFc hP1 hD1
  have hK := (hK.sub (tys' := []) [] rfl).app hK1
  generalize H1 = H at hP hS ⊢
  have hP : va_P (dC, dI) vwCl ([(sb, .inr (13, [.ref bv, .int 0, .int ml, .int (nI tx.length)])), (bv, .inl (cB, cap, .inl g))] ++ fz) H := hP
  have hD : va_D A ([(sb, .inr (13, [.ref bv, .int 0, .int ml, .int (nI tx.length)])), (bv, .inl (cB, cap, .inl g))] ++ fz) := hD
  have hK : va_K (dC, dI) vwCl [(cB, .byte), (cO, .object "java/lang/Object")] s := hK
  obtain ⟨rfl, hmp⟩ | ⟨t5, y5, rfl, hmp, htl5, hvm5⟩ := hw3
  · refine W.eq (g2 := F0 m 6 ls [.null]) rfl ?_
    have hmb5 : mbR rows (LTx.getD 5 []) = none := by rw [mbR, hmp]; rfl
    have hPc := hP.sub (ws' := []) [] rfl
    have hDc := hD.sub (ws' := []) [] (by decide) rfl
    have hFc := va_free (wc := []) hD hS hA [] rfl
    have hKc := hK.sub (tys' := []) [] rfl
    refine va_calli (va_runS (As := [.null]) (rest := []) ⟨hx, hb, hml, hown, htb⟩ (k_OP_kindOfN l dC dI _  ) (va_cwS 1 htb (g_S (fun _ h => h) m_601 m_599 m_600 m_20) rfl rfl rfl (by decide +kernel) ⟨Nat.le_of_ble_eq_true rfl, Nat.le_of_ble_eq_true rfl⟩) ⟨fun a U g mk q => by obtain ⟨q0, q1, qP, qK, qD⟩ := q; exact ⟨q0, q1, qP, va_K.moved (u := U) (U := U.calling g mk a) (Vm.Alike.refl U.vm) qK, qD⟩, fun U hU hW => ⟨rfl, by rw [hU], by rw [hU]; exact hPc, va_K.moved hW.alike hKc, hDc.weaken (fun _ _ _ _ => trivial)⟩⟩ rfl rfl hl.1 rfl (lv_room (Nat.le_of_ble_eq_true rfl)) d_OP_of_6 ⟨(by show 0 ≤ (3 + 10 * tln rows); omega), (by show 0 ≤ (10 + 662 * tln rows); omega)⟩) hS (fun q _ h => hFc q h) hFc (fun r6 u5 t H1 locs ht hvm hw7 hB hz1 hk1 hS => ?_)
    obtain ⟨hP1, hK1, hD1⟩ := hB
    rw [ht] at hP1
    have hK1 := va_K.moved hvm.symm hK1
    have hw7 : r6 = -1 := hw7
    obtain ⟨hP, hD⟩ := zz_joinN (pre := [(sb, .inr (13, [.ref bv, .int 0, .int ml, .int (nI tx.length)])), (bv, .inl (cB, cap, .inl g))]) (fz := fz) (wc := []) (wr := [(sb, .inr (13, [.ref bv, .int 0, .int ml, .int (nI tx.length)])), (bv, .inl (cB, cap, .inl g))]) (w1 := []) hP hD [] [0, 1] rfl rfl (by decide) (by decide) hk1 hFc hP1 hD1
    have hK := (hK.sub (tys' := [(cB, .byte), (cO, .object "java/lang/Object")]) [0, 1] rfl).app hK1
    generalize H1 = H at hP hS ⊢
    have hP : va_P (dC, dI) vwCl ([(sb, .inr (13, [.ref bv, .int 0, .int ml, .int (nI tx.length)])), (bv, .inl (cB, cap, .inl g))] ++ fz) H := hP
    have hD : va_D A ([(sb, .inr (13, [.ref bv, .int 0, .int ml, .int (nI tx.length)])), (bv, .inl (cB, cap, .inl g))] ++ fz) := hD
    have hK : va_K (dC, dI) vwCl [(cB, .byte), (cO, .object "java/lang/Object")] s := hK
    obtain rfl := hw7
    refine W.eq (g2 := F0 m 9 ls [.int (kI (opK (mbR rows (LTx.getD 5 []))))]) (by rw [hmb5]; rfl) ?_
    exact hjoinK  H locs ls  (lv_sub hl [0, 1] rfl) (zz_pickP (pre := [(sb, .inr (13, [.ref bv, .int 0, .int ml, .int (nI tx.length)])), (bv, .inl (cB, cap, .inl g))]) (fz := fz) (wc := [(sb, .inr (13, [.ref bv, .int 0, .int ml, .int (nI tx.length)])), (bv, .inl (cB, cap, .inl g))]) hP [0, 1] rfl) (zz_pickD (pre := [(sb, .inr (13, [.ref bv, .int 0, .int ml, .int (nI tx.length)])), (bv, .inl (cB, cap, .inl g))]) (fz := fz) (wc := [(sb, .inr (13, [.ref bv, .int 0, .int ml, .int (nI tx.length)])), (bv, .inl (cB, cap, .inl g))]) hD [0, 1] (by decide) rfl) hS
  · refine W.eq (g2 := F0 m 6 ls [.ref y5]) rfl ?_
    have hmb5 : mbR rows (LTx.getD 5 []) = some ((ksR rows).getD t5 []) := by rw [mbR, hmp]; rfl
    obtain ⟨d5, hd5⟩ := hvm5.succ
    have hv5 : VT cB cO em aK (d5 + 1) fz y5 (LTx.getD 5 []) ((ksR rows).getD t5 []) := hd5 ▸ hvm5
    have hPc := zz_pickP (pre := [(sb, .inr (13, [.ref bv, .int 0, .int ml, .int (nI tx.length)])), (bv, .inl (cB, cap, .inl g))]) (fz := fz) (wc := []) hP [] rfl
    have hDc := zz_pickD (pre := [(sb, .inr (13, [.ref bv, .int 0, .int ml, .int (nI tx.length)])), (bv, .inl (cB, cap, .inl g))]) (fz := fz) (wc := []) hD [] (by decide) rfl
    have hFc := zz_free (pre := [(sb, .inr (13, [.ref bv, .int 0, .int ml, .int (nI tx.length)])), (bv, .inl (cB, cap, .inl g))]) (fz := fz) (wc := []) hD hS hA [] rfl
    have hKc := hK.sub (tys' := [(cB, .byte), (cO, .object "java/lang/Object")]) [0, 1] rfl
    refine va_calli (va_runS (As := [.ref y5]) (rest := []) ⟨hx, hb, hml, hown, htb⟩ (k_OP_kindOf l dC dI _ y5 d5 (LTx.getD 5 []) ((ksR rows).getD t5 []) cB cO em aK aV fz hv5) (va_cwS 1 htb (g_S (fun _ h => h) m_601 m_599 m_600 m_20) rfl rfl rfl (by decide +kernel) ⟨Nat.le_of_ble_eq_true rfl, Nat.le_of_ble_eq_true rfl⟩) ⟨fun a U g mk q => by obtain ⟨q0, q1, qP, qK, qD, z0⟩ := q; exact ⟨q0, q1, qP, va_K.moved (u := U) (U := U.calling g mk a) (Vm.Alike.refl U.vm) qK, qD, EX.same (U := U) (U' := U.calling g mk a) rfl z0⟩, fun U hU hW => ⟨rfl, by rw [hU], by rw [hU]; exact hPc, va_K.moved hW.alike hKc, hDc.weaken (fun _ _ _ _ => trivial), by rw [hU]; exact EX.warm hW ((hE.kept (fun a h1 h2 => hS.2.1 a h1 h2)).narrow hFc)⟩⟩ rfl rfl hl.1 rfl (lv_room (Nat.le_of_ble_eq_true rfl)) d_OP_of_6 ⟨(by show 0 ≤ (3 + 10 * tln rows); omega), (by show 0 ≤ (10 + 662 * tln rows); omega)⟩) hS (fun q _ h => hFc q h) hFc (fun r6 u5 t H1 locs ht hvm hw7 hB hz1 hk1 hS => ?_)
    obtain ⟨hP1, hK1, hD1⟩ := hB
    rw [ht] at hP1
    have hK1 := va_K.moved hvm.symm hK1
    have hw7 : r6 = kI (opK (some ((ksR rows).getD t5 []))) := hw7
    obtain ⟨hP, hD⟩ := zz_join (pre := [(sb, .inr (13, [.ref bv, .int 0, .int ml, .int (nI tx.length)])), (bv, .inl (cB, cap, .inl g))]) (fz := fz) (wc := []) (wr := [(sb, .inr (13, [.ref bv, .int 0, .int ml, .int (nI tx.length)])), (bv, .inl (cB, cap, .inl g))]) (w1 := ([] ++ fz)) hP hD [] [0, 1] rfl rfl (by decide) (by decide) hk1 hFc hP1 hD1
    have hK := (hK.sub (tys' := []) [] rfl).app hK1
    generalize H1 = H at hP hS ⊢
    have hP : va_P (dC, dI) vwCl ([(sb, .inr (13, [.ref bv, .int 0, .int ml, .int (nI tx.length)])), (bv, .inl (cB, cap, .inl g))] ++ fz) H := hP
    have hD : va_D A ([(sb, .inr (13, [.ref bv, .int 0, .int ml, .int (nI tx.length)])), (bv, .inl (cB, cap, .inl g))] ++ fz) := hD
    have hK : va_K (dC, dI) vwCl [(cB, .byte), (cO, .object "java/lang/Object")] s := hK
    have hkq : r6 = kI (opK (mbR rows (LTx.getD 5 []))) := by rw [hmb5]; exact hw7
    subst hkq
    exact hjoinK  H locs ls  (lv_sub hl [0, 1] rfl) (zz_pickP (pre := [(sb, .inr (13, [.ref bv, .int 0, .int ml, .int (nI tx.length)])), (bv, .inl (cB, cap, .inl g))]) (fz := fz) (wc := [(sb, .inr (13, [.ref bv, .int 0, .int ml, .int (nI tx.length)])), (bv, .inl (cB, cap, .inl g))]) hP [0, 1] rfl) (zz_pickD (pre := [(sb, .inr (13, [.ref bv, .int 0, .int ml, .int (nI tx.length)])), (bv, .inl (cB, cap, .inl g))]) (fz := fz) (wc := [(sb, .inr (13, [.ref bv, .int 0, .int ml, .int (nI tx.length)])), (bv, .inl (cB, cap, .inl g))]) hD [0, 1] (by decide) rfl) hS
