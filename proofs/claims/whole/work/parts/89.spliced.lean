theorem ac_33 : ∀ n, n < 34 → acl n ≤ 4 ∧ asl n ≤ 80 := by decide +kernel
theorem ac_mono : ∀ n, n < 160 → acl n ≤ acl (n + 1) ∧ asl n ≤ asl (n + 1) := by decide +kernel
theorem drop_take1 {α : Type} {xs : List α} {i j : Nat} (z : α) (hi : i ≤ j) (h : j < xs.length) : (xs.drop i).take (j + 1 - i) = (xs.drop i).take (j - i) ++ [xs.getD j z] := by
  rw [show j + 1 - i = (j - i) + 1 by omega, take_step z (by rw [List.length_drop]; omega)]
  congr 2
  simp only [List.getD_eq_getElem?_getD, List.getElem?_drop]
  rw [show i + (j - i) = j by omega]
/-- the names stand there where they count -/
theorem spc_rows {rows : List Row} {k t o : Nat} {num : Int} {rt : List Nat} {ns ms : List (List Nat)} {ins : List (List Nat × List Row)} (e : rows = (k, 0, num, rt, []) :: kidRows k ns (ksR rows)) (h6 : k = 6 → ksN rows = ns) (hl : ns.length = (ksR rows).length) (hms : ms = ns.take t ++ (ins.map Prod.fst ++ ns.drop (t + o))) : (k, 0, num, rt, []) :: kidRows k ms ((ksR rows).take t ++ (ins.map Prod.snd ++ (ksR rows).drop (t + o))) = spc rows t o ins := by
  rw [spc_of e]
  show _ :: kidRows k _ _ = (k, 0, num, rt, []) :: kidRows k _ _
  congr 1
  by_cases hk : k = 6
  · rw [h6 hk, hms]
  · exact kid_names5 hk _ _ _ (by rw [hms]; simp [hl]) (by simp [ksN_len])
set_option maxHeartbeats 1000000 in
set_option maxRecDepth 100000 in
/-- spliced(place, out, in) -/
theorem k_VA_spliced0 (l : Launch) (dC : Nat → ClassId) (dI : Nat → Nat → Nat) (sz : Nat) (a : Nat) (d : Nat) (nn : List Nat) (rows : List Row) (t1 : Nat) (o1 : Nat) (cB : ClassId) (cO : ClassId) (em : Nat) (aK : Nat → Nat) (aV : Nat → Nat) (fz : va_W) (hv : VT cB cO em aK (d + 1) fz a nn rows) (hk9 : hdK rows = 5 ∨ hdK rows = 6) (ht : t1 + o1 ≤ (ksR rows).length) (hlen : (ksR rows).length ≤ 32) (hd : d < 90) : Met l y_VA_spliced ws_VA_spliced ({ frames := 7, cells := 6, slots := 90, locals := 171 }) (va_Pc [.ref a, .int (nI t1), .int (nI o1), .null] (fun U => U.heap.size = sz ∧ va_P (dC, dI) vwCl ([] ++ fz) U.heap ∧ va_K (dC, dI) vwCl [(cB, .byte), (cO, .object "java/lang/Object")] U ∧ va_D (fun _ => True) ([] ++ fz) ∧ EX em aK aV (va_A ([] ++ fz) sz) U U.heap)) (va_Qq (fun (r : Option Nat) (u : va_W) => ∃ y8, r = some y8 ∧ VT cB cO em aK (d + 1) (u ++ fz) y8 nn (spc rows t1 o1 ([] : List (List Nat × List Row)))) (fun u t => va_P (dC, dI) vwCl ([] ++ (u ++ fz)) t.heap ∧ va_K (dC, dI) vwCl [(cB, .byte), (cO, .object "java/lang/Object")] t ∧ va_D (va_A ([] ++ fz) sz) ([] ++ (u ++ fz))) (va_A ([] ++ fz) sz)) 6 90 (va_A ([] ++ fz) sz) := by
  refine Met.ofW (cc := c_VA_spliced) (maxL := 6) (ret := (some (.object "PatchStore$Value"))) (by decide) rfl ?_
  intro p e s m args below meth c s₁ B hml hv
  obtain ⟨hargs, hsz, hP, hK, hD0, hE⟩ := hv
  rw [show entryFrame m args 6 = entryFrame m ([.ref a, .int (nI t1), .int (nI o1), .null]).toArray 6 by rw [hargs]]
  have hx := B.exec
  have hb := B.bytes
  have hr := B.returns
  have hts := atoms_spec (ws := ws_VA_spliced) B.pre
  have htb := fun w (h : w ∈ TBL) => hts w (List.mem_cons_of_mem _ h)
  have hown : s.vm.findClass R_VA = some m.cls := findClass_of_methodNamed B.named
  have hlocks := B.notSynchronized
  subst hsz
  have hD := hD0.self (sz := s.heap.size)
  generalize hAe : va_A ([] ++ fz) s.heap.size = A at hD hE ⊢
  have hA : ∀ q : Nat, s.heap.size ≤ q → A q := fun q h => by rw [← hAe]; exact Or.inr h
  have hS : va_S A s.heap s.heap [] := va_S.rf
  have hP : va_P (dC, dI) vwCl ([] ++ fz) s.heap := hP
  have hl := lv_entry ([.ref a, .int (nI t1), .int (nI o1), .null]) (n := 6) (Nat.le_of_ble_eq_true rfl)
  rw [lg_entry_eq]
  generalize (lg_sl ([.ref a, .int (nI t1), .int (nI o1), .null]) ++ List.replicate (6 - (lg_sl ([.ref a, .int (nI t1), .int (nI o1), .null])).length) Slot.unset).toArray = ls at hl ⊢
  have hl : lv_has ls 6 [(0, .ref a), (1, .int (nI t1)), (2, .int (nI o1)), (3, .null)] := hl
  refine zz_nQ (fun Q hQ => ?_)
  obtain ⟨kd, tx, nu, nm, pa, dp, cn, tt, kk, num, rt, xs, ns, hc, htx, hnm, hal, hhd, hnl, hrl, hk5, hvl, hhk, hns, hdp, hcn, hrw, h160⟩ := (id hv : VT cB cO em aK (d + 1) fz a nn rows).opn
  refine va_new (ci := 14) (fs := [.null, .int 0, .int 0]) (C := R_AL) (T := T_AL) (N := 3) hx hb htb in_AL ty_AL ty_AL_ok hown (htb _ m_376) (htb _ m_74) (htb _ m_8) hK hP hD hS hA rfl (fun j hj => by rcases (show j = 0 ∨ j = 1 ∨ j = 2 by omega) with rfl | rfl | rfl <;> rfl) ((by show 1 ≤ 6; omega)) ((by show 3 ≤ 90; omega)) d_VA_spliced_0 (fun pl H hP hD hS => ?_)
  have hP := zz_rotP (pre := []) (fz := fz) hP
  have hD := zz_rotD (pre := []) (fz := fz) hD
  have hP : va_P (dC, dI) vwCl ([(pl, .inr (14, [.null, .int 0, .int 0]))] ++ fz) H := hP
  have hD : va_D A ([(pl, .inr (14, [.null, .int 0, .int 0]))] ++ fz) := hD
  refine W.widen (k := 1) (n := 3) (Nat.le_of_ble_eq_true rfl) (Nat.le_of_ble_eq_true rfl) ?_
  refine lv_dup hx hb d_VA_spliced_3 rfl ?_
  have hPc := hP.sub (ws' := [(pl, .inr (14, [.null, .int 0, .int 0]))]) [0] rfl
  have hDc := hD.sub (ws' := [(pl, .inr (14, [.null, .int 0, .int 0]))]) [0] (by decide) rfl
  have hFc := va_free (wc := [(pl, .inr (14, [.null, .int 0, .int 0]))]) hD hS hA [0] rfl
  have hKc := hK.sub (tys' := []) [] rfl
  refine va_callv (va_runI (As := []) (rest := [.ref pl]) ⟨hx, hb, hml, hown, htb⟩ (k_AL_init l dC dI _ pl em aK aV ) (cwI 0 htb (g_all (fun _ h => h) m_77) rfl rfl rfl (htb _ m_8) (htb _ m_377) (htb _ m_76) rfl (by decide +kernel) ⟨Nat.le_of_ble_eq_true rfl, Nat.le_of_ble_eq_true rfl⟩) ⟨fun a U g mk q => by obtain ⟨q0, q1, qP, qK, qD, z0⟩ := q; exact ⟨q0, q1, qP, va_K.moved (u := U) (U := U.calling g mk a) (Vm.Alike.refl U.vm) qK, qD, EX.same (U := U) (U' := U.calling g mk a) rfl z0⟩, fun U hU hW => ⟨rfl, by rw [hU], by rw [hU]; exact hPc, va_K.moved hW.alike hKc, hDc.weaken (fun _ _ _ _ => trivial), by rw [hU]; exact EX.warm hW ((hE.kept (fun a h1 h2 => hS.2.1 a h1 h2)).narrow hFc)⟩⟩ rfl rfl hl.1 rfl (lv_room (Nat.le_of_ble_eq_true rfl)) d_VA_spliced_4 ⟨(by show 1 ≤ 6; omega), (by show 3 ≤ 90; omega)⟩) hS (fun q _ h => hFc q h) hFc (fun u1 t H1 locs ht hvm hw3 hB hz1 hk1 hS => ?_)
  obtain ⟨hP1, hK1, hD1⟩ := hB
  rw [ht] at hP1
  have hK1 := va_K.moved hvm.symm hK1
  have hw3 : True := hw3
  obtain ⟨hP, hD⟩ := zz_joinN (pre := [(pl, .inr (14, [.null, .int 0, .int 0]))]) (fz := fz) (wc := [(pl, .inr (14, [.null, .int 0, .int 0]))]) (wr := []) (w1 := [(pl, .inr (14, [.ref em, .int 0, .int 0]))]) hP hD [0] [] rfl rfl (by decide) (by decide) hk1 hFc hP1 hD1
  have hK := (hK.sub (tys' := [(cB, .byte), (cO, .object "java/lang/Object")]) [0, 1] rfl).app hK1
  generalize H1 = H at hP hS ⊢
  have hP : va_P (dC, dI) vwCl ([(pl, .inr (14, [.ref em, .int 0, .int 0]))] ++ fz) H := hP
  have hD : va_D A ([(pl, .inr (14, [.ref em, .int 0, .int 0]))] ++ fz) := hD
  have hK : va_K (dC, dI) vwCl [(cB, .byte), (cO, .object "java/lang/Object")] s := hK
  refine lv_astore hx hb d_VA_spliced_7 hl (by decide) rfl (fun ls hl => ?_)
  have hl : lv_has ls 6 [(4, .ref pl), (0, .ref a), (1, .int (nI t1)), (2, .int (nI o1)), (3, .null)] := hl
  refine lv_iconst (v := 0) hx hb d_VA_spliced_9 (by decide) ?_
  refine lv_istore hx hb d_VA_spliced_10 hl (by decide) rfl (fun ls hl => ?_)
  have hl : lv_has ls 6 [(5, .int 0), (4, .ref pl), (0, .ref a), (1, .int (nI t1)), (2, .int (nI o1)), (3, .null)] := hl
  have hP := zz_pickP (pre := [(pl, .inr (14, [.ref em, .int 0, .int 0]))]) (fz := fz) (wc := [(pl, .inr (14, [.ref em, .int 0, .int 0]))]) hP [0] rfl
  have hD := zz_pickD (pre := [(pl, .inr (14, [.ref em, .int 0, .int 0]))]) (fz := fz) (wc := [(pl, .inr (14, [.ref em, .int 0, .int 0]))]) hD [0] (by decide) rfl
  have hP : va_P (dC, dI) vwCl ([] ++ ([(pl, .inr (14, [.ref em, .int 0, .int 0]))] ++ fz)) _ := hP
  have hD : va_D A ([] ++ ([(pl, .inr (14, [.ref em, .int 0, .int 0]))] ++ fz)) := hD
  have hloopp : ∀ (k9p : Nat) (i : Nat) (lz : va_W) (x1 : List Nat) (n1 : List (List Nat)) (r1 : List (List Row)) (H : Heap) (locs : List Loc) (ls : Array Slot), t1 - i = k9p → (i ≤ t1) → (x1.length = i) → (ALc cO em pl x1 lz) → (n1.length = x1.length) → (r1.length = x1.length) → (∀ q, q < x1.length → VT cB cO em aK d fz (x1.getD q 0) (n1.getD q []) (r1.getD q [])) → (x1 = xs.take i) → (n1 = ns.take i) → (r1 = (ksR rows).take i) → lv_has ls 6 [(5, .int (nI i)), (4, .ref pl), (0, .ref a), (1, .int (nI t1)), (2, .int (nI o1)), (3, .null)] → va_P (dC, dI) vwCl ([] ++ (lz ++ fz)) H → va_D A ([] ++ (lz ++ fz)) → va_S A s.heap H locs → W p l e (headSpec ws_VA_spliced ({ frames := 7, cells := 6, slots := 90, locals := 171 })).room s m args below meth c H locs (1 + acl x1.length) (3 + asl x1.length) Q (F0 m 12 ls []) := by
    intro k9p
    induction k9p using Nat.strongRecOn with
    | ind k9p ihp =>
      intro i lz x1 n1 r1 H locs ls hk9p hi1 hil hiL hi3 hi4 hi6 hx1 hn1 hr1 hl hP hD hS
      have hac0 := ac_33 x1.length (by omega)
      refine lv_iload hx hb d_VA_spliced_12 (lv_at hl 0 rfl) ?_
      refine lv_iload_n hx hb d_VA_spliced_14 rfl (lv_at hl 3 rfl) ?_
      refine lv_icmp_ge (tgt := 42) hx hb d_VA_spliced_15 rfl (fun h1 => ?_) (fun h1 => ?_)
      · have h1 : t1 ≤ i := (nI_leI (by omega) (by omega)).mp h1
        have hit : i = t1 := by omega
        rw [hit] at hx1 hn1 hr1
        have hx1l : x1.length = t1 := by omega
        refine lv_aload_nN hx hb d_VA_spliced_42 rfl (lv_at hl 5 rfl) ?_
        refine lv_ifnullN (tgt := 53) hx hb d_VA_spliced_43 rfl ?_
        refine lv_iload_n hx hb d_VA_spliced_53 rfl (lv_at hl 3 rfl) ?_
        refine lv_iload_n hx hb d_VA_spliced_54 rfl (lv_at hl 4 rfl) ?_
        refine lv_iadd hx hb d_VA_spliced_55 ?_
        refine W.eq (congrArg (fun z => F0 m 56 ls (.int z :: [])) (nI_add _ _ : ((nI t1) + (nI o1)) = nI (t1 + o1))) ?_
        refine lv_istore hx hb d_VA_spliced_56 hl (by decide) rfl (fun ls hl => ?_)
        have hl : lv_has ls 6 [(5, .int (nI (t1 + o1))), (4, .ref pl), (0, .ref a), (1, .int (nI t1)), (2, .int (nI o1)), (3, .null)] := hl
        have hloopr : ∀ (k9r : Nat) (j : Nat) (lz2 : va_W) (x2 : List Nat) (n2 : List (List Nat)) (r2 : List (List Row)) (H : Heap) (locs : List Loc) (ls : Array Slot), xs.length - j = k9r → (j ≤ xs.length) → (t1 + o1 ≤ j) → (x2.length = t1 + 0 + (j - (t1 + o1))) → (ALc cO em pl x2 lz2) → (n2.length = x2.length) → (r2.length = x2.length) → (∀ q, q < x2.length → VT cB cO em aK d fz (x2.getD q 0) (n2.getD q []) (r2.getD q [])) → (x2 = xs.take t1 ++ (([] : List Nat) ++ (xs.drop (t1 + o1)).take (j - (t1 + o1)))) → (n2 = ns.take t1 ++ (([] : List (List Nat)) ++ (ns.drop (t1 + o1)).take (j - (t1 + o1)))) → (r2 = (ksR rows).take t1 ++ (([] : List (List Row)) ++ ((ksR rows).drop (t1 + o1)).take (j - (t1 + o1)))) → lv_has ls 6 [(5, .int (nI j)), (4, .ref pl), (0, .ref a)] → va_P (dC, dI) vwCl ([] ++ (lz2 ++ fz)) H → va_D A ([] ++ (lz2 ++ fz)) → va_S A s.heap H locs → W p l e (headSpec ws_VA_spliced ({ frames := 7, cells := 6, slots := 90, locals := 171 })).room s m args below meth c H locs (1 + acl x2.length) (3 + asl x2.length) Q (F0 m 58 ls []) := by
          intro k9r
          induction k9r using Nat.strongRecOn with
          | ind k9r ihr =>
            intro j lz2 x2 n2 r2 H locs ls hk9r hj0 hj00 hjl hj1 hj3 hj4 hj6 hx2 hn2 hr2 hl hP hD hS
            have hac0 := ac_33 x2.length (by omega)
            have hal8 : ALz cO em (lz2 ++ fz) pa xs := hal.mono (fun q hq => List.mem_append_right _ hq)
            refine lv_iload hx hb d_VA_spliced_58 (lv_at hl 0 rfl) ?_
            refine lv_aload_n hx hb d_VA_spliced_60 rfl (lv_at hl 2 rfl) ?_
            obtain ⟨qz5, hz5⟩ := List.getElem?_of_mem (List.mem_append_right [] (List.mem_append_right _ hc))
            refine va_get (D := (dC, dI)) (ci := 3) (v := .ref pa) (C := R_VA) (T := T_VA) (N := 7) hx hb htb in_VA hown hK hP qz5 hz5 rfl 4 (by decide) (htb _ m_393) (fun _ h9 => h9) rfl d_VA_spliced_61 ?_
            have hPc : va_P (dC, dI) vwCl ([] ++ (lz2 ++ fz)) _ := zz_tlP (pre := []) (tl := (lz2 ++ fz)) hP
            have hKc := hK.sub (tys' := []) [] rfl
            refine vp_callSi (W.runV (As := []) (rest := [.int (nI j)]) ⟨hx, hb, hml, hown, htb⟩ (z_AL_size l dC dI pa xs cO em (lz2 ++ fz) hal8) (cwV 0 htb (g_V (fun _ h => h) m_486 m_483 m_484 m_485 m_8) rfl rfl rfl (by decide +kernel) ⟨Nat.le_of_ble_eq_true rfl, Nat.le_of_ble_eq_true rfl⟩) ⟨fun a U g mk q => by obtain ⟨q0, qP, qK⟩ := q; exact ⟨q0, qP, va_K.moved (u := U) (U := U.calling g mk a) (Vm.Alike.refl U.vm) qK⟩, (hal8).recv hK hP (fun q hq => List.mem_append_right _ hq), fun U hU hW => ⟨rfl, by rw [hU]; exact hPc, va_K.moved hW.alike hKc⟩⟩ rfl rfl hl.1 rfl (lv_room (Nat.le_of_ble_eq_true rfl)) d_VA_spliced_64 ⟨(by show (1 + acl x2.length) ≤ 6; omega), (by show (3 + asl x2.length) ≤ 90; omega)⟩) (fun r6 hw7 => ?_)
            have hw7 : r6 = nI xs.length := hw7
            obtain rfl := hw7
            refine lv_icmp_ge (tgt := 94) hx hb d_VA_spliced_67 rfl (fun h2 => ?_) (fun h2 => ?_)
            · have h2 : xs.length ≤ j := (nI_leI (by omega) (by omega)).mp h2
              have hx2 : x2 = xs.take t1 ++ (([] : List Nat) ++ xs.drop (t1 + o1)) := by rw [hx2, (List.take_of_length_le (by rw [List.length_drop]; omega) : (xs.drop (t1 + o1)).take (j - (t1 + o1)) = xs.drop (t1 + o1))]
              have hn2 : n2 = ns.take t1 ++ (([] : List (List Nat)) ++ ns.drop (t1 + o1)) := by rw [hn2, (List.take_of_length_le (by rw [List.length_drop]; omega) : (ns.drop (t1 + o1)).take (j - (t1 + o1)) = ns.drop (t1 + o1))]
              have hr2 : r2 = (ksR rows).take t1 ++ (([] : List (List Row)) ++ (ksR rows).drop (t1 + o1)) := by rw [hr2, (List.take_of_length_le (by rw [List.length_drop]; omega) : ((ksR rows).drop (t1 + o1)).take (j - (t1 + o1)) = (ksR rows).drop (t1 + o1))]
              have hx2l : x2.length < 34 := by omega
              have hac9 := ac_33 _ hx2l
              refine va_new (ci := 3) (fs := [.int 0, .null, .long 0, .null, .null, .int 0, .int 0]) (C := R_VA) (T := T_VA) (N := 7) hx hb htb in_VA ty_VA ty_VA_ok hown (htb _ m_499) (htb _ m_370) (htb _ m_18) hK hP hD hS hA rfl (fun j hj => by rcases (show j = 0 ∨ j = 1 ∨ j = 2 ∨ j = 3 ∨ j = 4 ∨ j = 5 ∨ j = 6 by omega) with rfl | rfl | rfl | rfl | rfl | rfl | rfl <;> rfl) ((by show ((1 + acl x2.length) + 1) ≤ 6; omega)) ((by show ((3 + asl x2.length) + 7) ≤ 90; omega)) d_VA_spliced_94 (fun zv H hP hD hS => ?_)
              have hP := zz_rotP (pre := []) (fz := (lz2 ++ fz)) hP
              have hD := zz_rotD (pre := []) (fz := (lz2 ++ fz)) hD
              have hP : va_P (dC, dI) vwCl ([(zv, .inr (3, [.int 0, .null, .long 0, .null, .null, .int 0, .int 0]))] ++ (lz2 ++ fz)) H := hP
              have hD : va_D A ([(zv, .inr (3, [.int 0, .null, .long 0, .null, .null, .int 0, .int 0]))] ++ (lz2 ++ fz)) := hD
              refine lv_dup hx hb d_VA_spliced_97 rfl ?_
              refine lv_aload_n hx hb d_VA_spliced_98 rfl (lv_at hl 2 rfl) ?_
              obtain ⟨qz8, hz8⟩ := List.getElem?_of_mem (List.mem_append_right [(zv, .inr (3, [.int 0, .null, .long 0, .null, .null, .int 0, .int 0]))] (List.mem_append_right _ hc))
              refine va_get (D := (dC, dI)) (ci := 3) (v := .int kd) (C := R_VA) (T := T_VA) (N := 7) hx hb htb in_VA hown hK hP qz8 hz8 rfl 0 (by decide) (htb _ m_378) (fun _ h9 => h9) rfl d_VA_spliced_99 ?_
              refine lv_aload hx hb d_VA_spliced_102 (lv_at hl 1 rfl) ?_
              refine lv_aload_n hx hb d_VA_spliced_104 rfl (lv_at hl 2 rfl) ?_
              obtain ⟨qz9, hz9⟩ := List.getElem?_of_mem (List.mem_append_right [(zv, .inr (3, [.int 0, .null, .long 0, .null, .null, .int 0, .int 0]))] (List.mem_append_right _ hc))
              refine va_get (D := (dC, dI)) (ci := 3) (v := .ref nm) (C := R_VA) (T := T_VA) (N := 7) hx hb htb in_VA hown hK hP qz9 hz9 rfl 3 (by decide) (htb _ m_389) (fun _ h9 => h9) rfl d_VA_spliced_105 ?_
              have hal9 : ALz cO em (lz2 ++ fz) pl x2 := hj1.frozen.mono (fun q hq => List.mem_append_left _ hq)
              have hvl9 : ∀ i, i < x2.length → VT cB cO em aK d (lz2 ++ fz) (x2.getD i 0) (n2.getD i []) (r2.getD i []) := fun i hi => (hj6 i hi).mono (fun q hq => List.mem_append_right _ hq)
              have hPc := zz_pickP (pre := [(zv, .inr (3, [.int 0, .null, .long 0, .null, .null, .int 0, .int 0]))]) (fz := (lz2 ++ fz)) (wc := [(zv, .inr (3, [.int 0, .null, .long 0, .null, .null, .int 0, .int 0]))]) hP [0] rfl
              have hDc := zz_pickD (pre := [(zv, .inr (3, [.int 0, .null, .long 0, .null, .null, .int 0, .int 0]))]) (fz := (lz2 ++ fz)) (wc := [(zv, .inr (3, [.int 0, .null, .long 0, .null, .null, .int 0, .int 0]))]) hD [0] (by decide) rfl
              have hFc := zz_free (pre := [(zv, .inr (3, [.int 0, .null, .long 0, .null, .null, .int 0, .int 0]))]) (fz := (lz2 ++ fz)) (wc := [(zv, .inr (3, [.int 0, .null, .long 0, .null, .null, .int 0, .int 0]))]) hD hS hA [0] rfl
              have hKc := hK.sub (tys' := [(cO, .object "java/lang/Object")]) [1] rfl
              refine va_callv (va_runI (As := [.int kd, .ref pl, .ref nm]) (rest := [.ref zv]) ⟨hx, hb, hml, hown, htb⟩ (k_VA_init2 l dC dI _ zv kd pl nm x2 n2 r2 d cB cO em aK aV (lz2 ++ fz) hal9 hj4 hvl9 (by omega)) (cwI 3 htb (g_all (fun _ h => h) m_482) rfl rfl rfl (htb _ m_18) (htb _ m_828) (htb _ m_481) rfl (by decide +kernel) ⟨Nat.le_of_ble_eq_true rfl, Nat.le_of_ble_eq_true rfl⟩) ⟨fun a U g mk q => by obtain ⟨q0, q1, qP, qK, qD, z0⟩ := q; exact ⟨q0, q1, qP, va_K.moved (u := U) (U := U.calling g mk a) (Vm.Alike.refl U.vm) qK, qD, EX.same (U := U) (U' := U.calling g mk a) rfl z0⟩, fun U hU hW => ⟨rfl, by rw [hU], by rw [hU]; exact hPc, va_K.moved hW.alike hKc, hDc.weaken (fun _ _ _ _ => trivial), by rw [hU]; exact EX.warm hW ((hE.kept (fun a h1 h2 => hS.2.1 a h1 h2)).narrow hFc)⟩⟩ rfl rfl hl.1 rfl (lv_room (Nat.le_of_ble_eq_true rfl)) d_VA_spliced_108 ⟨(by show ((1 + acl x2.length) + 1) ≤ 6; omega), (by show ((3 + asl x2.length) + 7) ≤ 90; omega)⟩) hS (fun q _ h => hFc q h) hFc (fun u10 t H1 locs ht hvm hw12 hB hz1 hk1 hS => ?_)
              obtain ⟨hP1, hK1, hD1⟩ := hB
              rw [ht] at hP1
              have hK1 := va_K.moved hvm.symm hK1
              have hw12 : True := hw12
              obtain ⟨hP, hD⟩ := zz_join (pre := [(zv, .inr (3, [.int 0, .null, .long 0, .null, .null, .int 0, .int 0]))]) (fz := (lz2 ++ fz)) (wc := [(zv, .inr (3, [.int 0, .null, .long 0, .null, .null, .int 0, .int 0]))]) (wr := []) (w1 := ([(zv, .inr (3, [.int kd, .ref (aK 0), .long 0, .ref nm, .ref pl, .int (nI (dmx r2 + 1)), .int (nI (1 + slen r2))]))] ++ (lz2 ++ fz))) hP hD [0] [] rfl rfl (by decide) (by decide) hk1 hFc hP1 hD1
              have hK := (hK.sub (tys' := [(cB, .byte)]) [0] rfl).app hK1
              generalize H1 = H at hP hS ⊢
              have hP : va_P (dC, dI) vwCl ([(zv, .inr (3, [.int kd, .ref (aK 0), .long 0, .ref nm, .ref pl, .int (nI (dmx r2 + 1)), .int (nI (1 + slen r2))]))] ++ (lz2 ++ fz)) H := hP
              have hD : va_D A ([(zv, .inr (3, [.int kd, .ref (aK 0), .long 0, .ref nm, .ref pl, .int (nI (dmx r2 + 1)), .int (nI (1 + slen r2))]))] ++ (lz2 ++ fz)) := hD
              have hK : va_K (dC, dI) vwCl [(cB, .byte), (cO, .object "java/lang/Object")] s := hK
              have hkd : (kd = 3 ∧ kk = 5) ∨ (kd = 4 ∧ kk = 6) := by rcases hk9 with h | h; exact Or.inl ⟨(hhd.kind.2.1).mpr (hhk.symm.trans h), hhk.symm.trans h⟩; exact Or.inr ⟨(hhd.kind.1).mpr (hhk.symm.trans h), hhk.symm.trans h⟩
              have hz0 : num = 0 ∧ rt = [] := by rcases hhd with ⟨h, _⟩ | ⟨h, _⟩ | ⟨h, _⟩ | ⟨_, _, _, h1, h2, _⟩ | ⟨_, _, _, h1, h2, _⟩; rcases hkd with h9 | h9; exact absurd (h.symm.trans h9.1) (by decide); exact absurd (h.symm.trans h9.1) (by decide); rcases hkd with h9 | h9; exact absurd (h.symm.trans h9.1) (by decide); exact absurd (h.symm.trans h9.1) (by decide); rcases hkd with h9 | h9; exact absurd (h.symm.trans h9.1) (by decide); exact absurd (h.symm.trans h9.1) (by decide); exact ⟨h1, h2⟩; exact ⟨h1, h2⟩
              have hsp : (kk, 0, 0, [], []) :: kidRows kk n2 r2 = spc rows t1 o1 ([] : List (List Nat × List Row)) := by have h9 := spc_rows (t := t1) (o := o1) (ins := ([] : List (List Nat × List Row))) hrw hns (by omega) hn2; rw [hz0.1, hz0.2] at h9; rw [hr2]; exact h9
              have hP9 := zz_pickP (pre := [(zv, .inr (3, [.int kd, .ref (aK 0), .long 0, .ref nm, .ref pl, .int (nI (dmx r2 + 1)), .int (nI (1 + slen r2))]))]) (fz := (lz2 ++ fz)) (wc := [(zv, .inr (3, [.int kd, .ref (aK 0), .long 0, .ref nm, .ref pl, .int (nI (dmx r2 + 1)), .int (nI (1 + slen r2))]))]) hP [0] rfl
              have hD9 := zz_pickD (pre := [(zv, .inr (3, [.int kd, .ref (aK 0), .long 0, .ref nm, .ref pl, .int (nI (dmx r2 + 1)), .int (nI (1 + slen r2))]))]) (fz := (lz2 ++ fz)) (wc := [(zv, .inr (3, [.int kd, .ref (aK 0), .long 0, .ref nm, .ref pl, .int (nI (dmx r2 + 1)), .int (nI (1 + slen r2))]))]) hD [0] (by decide) rfl
              have hK9 := hK.sub (tys' := [(cB, .byte), (cO, .object "java/lang/Object")]) [0, 1] rfl
              rw [hQ]
              refine W.widen (k := 6) (n := 90) ((by show ((1 + acl x2.length) + 1) ≤ 6; omega)) ((by show ((3 + asl x2.length) + 7) ≤ 90; omega)) ?_
              exact W.aret (v := .ref zv) hx hb hr (Or.inl ⟨_, rfl⟩) (Or.inr ⟨_, rfl⟩) (fun t ht hW => ⟨⟨(some zv), ((zv, .inr (3, [.int kd, .ref (aK 0), .long 0, .ref nm, .ref pl, .int (nI (dmx r2 + 1)), .int (nI (1 + slen r2))])) :: lz2), rfl, ⟨_, rfl, by rw [← hsp]; exact VT.branch (d := d) (nm := nm) (pa := pl) (xs := x2) (ns := n2) (rs := r2) List.mem_cons_self (hnm.mono (fun q hq => List.mem_append_right _ hq)) (hj1.frozen.mono (fun q hq => List.mem_append_left _ (List.mem_cons_of_mem _ hq))) hkd hj3 hj4 (fun i hi => (hj6 i hi).mono (fun q hq => List.mem_append_right _ hq)) rfl rfl⟩, ⟨by rw [ht]; exact hP9, va_K.moved hW.alike hK9, hD9⟩⟩, hS.F ht⟩) hS.2.2 d_VA_spliced_111
            · have h2 : j < xs.length := Nat.not_le.mp (fun h => h2 ((nI_leI (by omega) (by omega)).mpr h))
              have hvt := hvl j h2
              obtain ⟨kd0, tx0, nu0, nm0, pa0, dp0, cn0, hc0, hn0⟩ := hvt.cellN
              have hc8 : VAc (xs.getD j 0) kd0 tx0 nu0 nm0 pa0 dp0 cn0 ∈ (lz2 ++ fz) := List.mem_append_right _ hc0
              refine lv_aload hx hb d_VA_spliced_70 (lv_at hl 1 rfl) ?_
              refine lv_aload_n hx hb d_VA_spliced_72 rfl (lv_at hl 2 rfl) ?_
              obtain ⟨qz8, hz8⟩ := List.getElem?_of_mem (List.mem_append_right [] (List.mem_append_right _ hc))
              refine va_get (D := (dC, dI)) (ci := 3) (v := .ref pa) (C := R_VA) (T := T_VA) (N := 7) hx hb htb in_VA hown hK hP qz8 hz8 rfl 4 (by decide) (htb _ m_393) (fun _ h9 => h9) rfl d_VA_spliced_73 ?_
              refine lv_iload hx hb d_VA_spliced_76 (lv_at hl 0 rfl) ?_
              have hPc : va_P (dC, dI) vwCl ([] ++ (lz2 ++ fz)) _ := zz_tlP (pre := []) (tl := (lz2 ++ fz)) hP
              have hKc := hK.sub (tys' := [(cO, .object "java/lang/Object")]) [1] rfl
              refine va_csq (W.runV (As := [.int (nI j)]) (rest := [.ref pl]) ⟨hx, hb, hml, hown, htb⟩ (z_AL_get l dC dI pa xs cO em j (lz2 ++ fz) hal8 h2) (cwV 1 htb (g_V (fun _ h => h) m_490 m_487 m_488 m_489 m_8) rfl rfl rfl (by decide +kernel) ⟨Nat.le_of_ble_eq_true rfl, Nat.le_of_ble_eq_true rfl⟩) ⟨fun a U g mk q => by obtain ⟨q0, qP, qK⟩ := q; exact ⟨q0, qP, va_K.moved (u := U) (U := U.calling g mk a) (Vm.Alike.refl U.vm) qK⟩, (hal8).recv hK hP (fun q hq => List.mem_append_right _ hq), fun U hU hW => ⟨rfl, by rw [hU]; exact hPc, va_K.moved hW.alike hKc⟩⟩ rfl rfl hl.1 rfl (lv_room (Nat.le_of_ble_eq_true rfl)) d_VA_spliced_78 ⟨(by show (1 + acl x2.length) ≤ 6; omega), (by show (3 + asl x2.length) ≤ 90; omega)⟩) (fun r9 hw10 => ?_)
              have hw10 : r9 = some (xs.getD j 0) := hw10
              obtain rfl := hw10
              refine W.eq (g2 := F0 m 81 ls [.ref (xs.getD j 0), .ref pl]) rfl ?_
              refine va_castY (C := "PatchStore$Value") hx hb hown (htb _ m_499) (nw_14 hE) (zz_recv hK hP (ci := 3) rfl (List.mem_append_right _ hc8)) d_VA_spliced_81 ?_
              have hac := ac_mono x2.length (by omega)
              have hac1 := ac_33 (x2.length + 1) (by omega)
              have hPc := zz_pickP (pre := []) (fz := (lz2 ++ fz)) (wc := []) hP [] rfl
              have hDc := zz_pickD (pre := []) (fz := (lz2 ++ fz)) (wc := []) hD [] (by decide) rfl
              have hFc := zz_free (pre := []) (fz := (lz2 ++ fz)) (wc := []) hD hS hA [] rfl
              have hKc := hK.sub (tys' := [(cO, .object "java/lang/Object")]) [1] rfl
              refine va_calli (va_runV (As := [.ref (xs.getD j 0)]) (rest := []) ⟨hx, hb, hml, hown, htb⟩ (k_AL_add l dC dI _ pl x2 cO 3 (xs.getD j 0) em aK aV lz2 fz Oci3 hj1 (of_getD (z := 0) (fun i hi => (hj6 i hi).vin)) ((hvt).vin) (by omega)) (cwV 1 htb (g_V (fun _ h => h) m_525 m_827 m_523 m_524 m_8) rfl rfl rfl (by decide +kernel) ⟨Nat.le_of_ble_eq_true rfl, Nat.le_of_ble_eq_true rfl⟩) ⟨fun a U g mk q => by obtain ⟨q0, q1, qP, qK, qD, z0⟩ := q; exact ⟨q0, q1, qP, va_K.moved (u := U) (U := U.calling g mk a) (Vm.Alike.refl U.vm) qK, qD, EX.same (U := U) (U' := U.calling g mk a) rfl z0⟩, (hj1.frozen).recv hK hP (fun q hq => List.mem_append_right _ (List.mem_append_left _ hq)), fun U hU hW => ⟨rfl, by rw [hU], by rw [hU]; exact hPc, va_K.moved hW.alike hKc, hDc.weaken (fun _ _ _ _ => trivial), by rw [hU]; exact EX.warm hW ((hE.kept (fun a h1 h2 => hS.2.1 a h1 h2)).narrow hFc)⟩⟩ rfl rfl hl.1 rfl (lv_room (Nat.le_of_ble_eq_true rfl)) d_VA_spliced_84 ⟨(by show ((1 + acl x2.length) + (acl (x2.length + 1) - acl x2.length)) ≤ 6; omega), (by show ((3 + asl x2.length) + (asl (x2.length + 1) - asl x2.length)) ≤ 90; omega)⟩) hS (fun q _ h => hFc q h) hFc (fun r12 u11 t H1 locs ht hvm hw13 hB hz1 hk1 hS => ?_)
              obtain ⟨hP1, hK1, hD1⟩ := hB
              rw [ht] at hP1
              have hK1 := va_K.moved hvm.symm hK1
              have hw13 : ALc cO em pl (x2 ++ [(xs.getD j 0)]) u11 := hw13
              obtain ⟨hP, hD⟩ := zz_join (pre := []) (fz := (lz2 ++ fz)) (wc := []) (wr := []) (w1 := ([] ++ (u11 ++ fz))) hP hD [] [] rfl rfl (by decide) (by decide) hk1 hFc hP1 hD1
              have hK := (hK.sub (tys' := [(cB, .byte)]) [0] rfl).app hK1
              generalize H1 = H at hP hS ⊢
              have hP : va_P (dC, dI) vwCl ([] ++ (u11 ++ fz)) H := hP
              have hD : va_D A ([] ++ (u11 ++ fz)) := hD
              have hK : va_K (dC, dI) vwCl [(cB, .byte), (cO, .object "java/lang/Object")] s := hK
              have hxlf15 : (x2 ++ [xs.getD j 0]).length = x2.length + 1 := by simp
              have haxf15 : acl (x2 ++ [xs.getD j 0]).length = acl (x2.length + 1) := by rw [hxlf15]
              have hayf15 : asl (x2 ++ [xs.getD j 0]).length = asl (x2.length + 1) := by rw [hxlf15]
              have hnlf15 : (n2 ++ [ns.getD j []]).length = (x2 ++ [xs.getD j 0]).length := by simp; omega
              have hrlf15 : (r2 ++ [(ksR rows).getD j []]).length = (x2 ++ [xs.getD j 0]).length := by simp; omega
              have hvlf15 : ∀ q, q < (x2 ++ [xs.getD j 0]).length → VT cB cO em aK d fz ((x2 ++ [xs.getD j 0]).getD q 0) ((n2 ++ [ns.getD j []]).getD q []) ((r2 ++ [(ksR rows).getD j []]).getD q []) := vl_app (by omega) (by omega) hj6 hvt
              refine lv_pop hx hb d_VA_spliced_87 rfl ?_
              refine lv_iinc (k := 0) (v := ((nI j) + Int32.ofInt 1)) hx hb d_VA_spliced_88 hl rfl rfl (by decide) rfl (fun ls hl => ?_)
              have hl : lv_has ls 6 [(5, .int ((nI j) + Int32.ofInt 1)), (4, .ref pl), (0, .ref a)] := hl
              rw [show nI j + Int32.ofInt 1 = nI (j + 1) from nI_1 _] at hl
              refine lv_goto (tgt := 58) hx hb d_VA_spliced_91 rfl ?_
              refine W.widen (k := (1 + acl (x2 ++ [xs.getD j 0]).length)) (n := (3 + asl (x2 ++ [xs.getD j 0]).length)) (by omega) (by omega) ?_
              exact ihr (xs.length - (j + 1)) (by omega) (j + 1) u11 (x2 ++ [xs.getD j 0]) (n2 ++ [ns.getD j []]) (r2 ++ [(ksR rows).getD j []]) H locs ls rfl (by omega) (by omega) (by omega) (hw13) (hnlf15) (hrlf15) (hvlf15) (by rw [hx2, drop_take1 0 (by omega) (by omega)]; simp) (by rw [hn2, drop_take1 [] (by omega) (by omega)]; simp) (by rw [hr2, drop_take1 [] (by omega) (by omega)]; simp) (lv_sub hl [0, 1, 2] rfl) (zz_pickP (pre := []) (fz := (u11 ++ fz)) (wc := []) hP [] rfl) (zz_pickD (pre := []) (fz := (u11 ++ fz)) (wc := []) hD [] (by decide) rfl) hS
        exact hloopr _ (t1 + o1) lz x1 n1 r1 _ _ ls rfl (by omega) (Nat.le_refl _) (by omega) (hiL) (hi3) (hi4) (hi6) (by rw [hx1, Nat.sub_self]; simp) (by rw [hn1, Nat.sub_self]; simp) (by rw [hr1, Nat.sub_self]; simp) (lv_sub hl [0, 1, 2] rfl) (zz_pickP (pre := []) (fz := (lz ++ fz)) (wc := []) hP [] rfl) (zz_pickD (pre := []) (fz := (lz ++ fz)) (wc := []) hD [] (by decide) rfl) hS
      · have h1 : i < t1 := Nat.not_le.mp (fun h => h1 ((nI_leI (by omega) (by omega)).mpr h))
        have hix : i < xs.length := by omega
        have hvt := hvl i hix
        obtain ⟨kd0, tx0, nu0, nm0, pa0, dp0, cn0, hc0, hn0⟩ := hvt.cellN
        have hal8 : ALz cO em (lz ++ fz) pa xs := hal.mono (fun q hq => List.mem_append_right _ hq)
        have hc8 : VAc (xs.getD i 0) kd0 tx0 nu0 nm0 pa0 dp0 cn0 ∈ (lz ++ fz) := List.mem_append_right _ hc0
        refine lv_aload hx hb d_VA_spliced_18 (lv_at hl 1 rfl) ?_
        refine lv_aload_n hx hb d_VA_spliced_20 rfl (lv_at hl 2 rfl) ?_
        obtain ⟨qz5, hz5⟩ := List.getElem?_of_mem (List.mem_append_right [] (List.mem_append_right _ hc))
        refine va_get (D := (dC, dI)) (ci := 3) (v := .ref pa) (C := R_VA) (T := T_VA) (N := 7) hx hb htb in_VA hown hK hP qz5 hz5 rfl 4 (by decide) (htb _ m_393) (fun _ h9 => h9) rfl d_VA_spliced_21 ?_
        refine lv_iload hx hb d_VA_spliced_24 (lv_at hl 0 rfl) ?_
        have hPc : va_P (dC, dI) vwCl ([] ++ (lz ++ fz)) _ := zz_tlP (pre := []) (tl := (lz ++ fz)) hP
        have hKc := hK.sub (tys' := [(cO, .object "java/lang/Object")]) [1] rfl
        refine va_csq (W.runV (As := [.int (nI i)]) (rest := [.ref pl]) ⟨hx, hb, hml, hown, htb⟩ (z_AL_get l dC dI pa xs cO em i (lz ++ fz) hal8 hix) (cwV 1 htb (g_V (fun _ h => h) m_490 m_487 m_488 m_489 m_8) rfl rfl rfl (by decide +kernel) ⟨Nat.le_of_ble_eq_true rfl, Nat.le_of_ble_eq_true rfl⟩) ⟨fun a U g mk q => by obtain ⟨q0, qP, qK⟩ := q; exact ⟨q0, qP, va_K.moved (u := U) (U := U.calling g mk a) (Vm.Alike.refl U.vm) qK⟩, (hal8).recv hK hP (fun q hq => List.mem_append_right _ hq), fun U hU hW => ⟨rfl, by rw [hU]; exact hPc, va_K.moved hW.alike hKc⟩⟩ rfl rfl hl.1 rfl (lv_room (Nat.le_of_ble_eq_true rfl)) d_VA_spliced_26 ⟨(by show (1 + acl x1.length) ≤ 6; omega), (by show (3 + asl x1.length) ≤ 90; omega)⟩) (fun r6 hw7 => ?_)
        have hw7 : r6 = some (xs.getD i 0) := hw7
        obtain rfl := hw7
        refine W.eq (g2 := F0 m 29 ls [.ref (xs.getD i 0), .ref pl]) rfl ?_
        refine va_castY (C := "PatchStore$Value") hx hb hown (htb _ m_499) (nw_14 hE) (zz_recv hK hP (ci := 3) rfl (List.mem_append_right _ hc8)) d_VA_spliced_29 ?_
        have hac := ac_mono x1.length (by omega)
        have hac1 := ac_33 (x1.length + 1) (by omega)
        have hPc := zz_pickP (pre := []) (fz := (lz ++ fz)) (wc := []) hP [] rfl
        have hDc := zz_pickD (pre := []) (fz := (lz ++ fz)) (wc := []) hD [] (by decide) rfl
        have hFc := zz_free (pre := []) (fz := (lz ++ fz)) (wc := []) hD hS hA [] rfl
        have hKc := hK.sub (tys' := [(cO, .object "java/lang/Object")]) [1] rfl
        refine va_calli (va_runV (As := [.ref (xs.getD i 0)]) (rest := []) ⟨hx, hb, hml, hown, htb⟩ (k_AL_add l dC dI _ pl x1 cO 3 (xs.getD i 0) em aK aV lz fz Oci3 hiL (of_getD (z := 0) (fun i hi => (hi6 i hi).vin)) ((hvt).vin) (by omega)) (cwV 1 htb (g_V (fun _ h => h) m_525 m_827 m_523 m_524 m_8) rfl rfl rfl (by decide +kernel) ⟨Nat.le_of_ble_eq_true rfl, Nat.le_of_ble_eq_true rfl⟩) ⟨fun a U g mk q => by obtain ⟨q0, q1, qP, qK, qD, z0⟩ := q; exact ⟨q0, q1, qP, va_K.moved (u := U) (U := U.calling g mk a) (Vm.Alike.refl U.vm) qK, qD, EX.same (U := U) (U' := U.calling g mk a) rfl z0⟩, (hiL.frozen).recv hK hP (fun q hq => List.mem_append_right _ (List.mem_append_left _ hq)), fun U hU hW => ⟨rfl, by rw [hU], by rw [hU]; exact hPc, va_K.moved hW.alike hKc, hDc.weaken (fun _ _ _ _ => trivial), by rw [hU]; exact EX.warm hW ((hE.kept (fun a h1 h2 => hS.2.1 a h1 h2)).narrow hFc)⟩⟩ rfl rfl hl.1 rfl (lv_room (Nat.le_of_ble_eq_true rfl)) d_VA_spliced_32 ⟨(by show ((1 + acl x1.length) + (acl (x1.length + 1) - acl x1.length)) ≤ 6; omega), (by show ((3 + asl x1.length) + (asl (x1.length + 1) - asl x1.length)) ≤ 90; omega)⟩) hS (fun q _ h => hFc q h) hFc (fun r9 u8 t H1 locs ht hvm hw10 hB hz1 hk1 hS => ?_)
        obtain ⟨hP1, hK1, hD1⟩ := hB
        rw [ht] at hP1
        have hK1 := va_K.moved hvm.symm hK1
        have hw10 : ALc cO em pl (x1 ++ [(xs.getD i 0)]) u8 := hw10
        obtain ⟨hP, hD⟩ := zz_join (pre := []) (fz := (lz ++ fz)) (wc := []) (wr := []) (w1 := ([] ++ (u8 ++ fz))) hP hD [] [] rfl rfl (by decide) (by decide) hk1 hFc hP1 hD1
        have hK := (hK.sub (tys' := [(cB, .byte)]) [0] rfl).app hK1
        generalize H1 = H at hP hS ⊢
        have hP : va_P (dC, dI) vwCl ([] ++ (u8 ++ fz)) H := hP
        have hD : va_D A ([] ++ (u8 ++ fz)) := hD
        have hK : va_K (dC, dI) vwCl [(cB, .byte), (cO, .object "java/lang/Object")] s := hK
        have hxlf12 : (x1 ++ [xs.getD i 0]).length = x1.length + 1 := by simp
        have haxf12 : acl (x1 ++ [xs.getD i 0]).length = acl (x1.length + 1) := by rw [hxlf12]
        have hayf12 : asl (x1 ++ [xs.getD i 0]).length = asl (x1.length + 1) := by rw [hxlf12]
        have hnlf12 : (n1 ++ [ns.getD i []]).length = (x1 ++ [xs.getD i 0]).length := by simp; omega
        have hrlf12 : (r1 ++ [(ksR rows).getD i []]).length = (x1 ++ [xs.getD i 0]).length := by simp; omega
        have hvlf12 : ∀ q, q < (x1 ++ [xs.getD i 0]).length → VT cB cO em aK d fz ((x1 ++ [xs.getD i 0]).getD q 0) ((n1 ++ [ns.getD i []]).getD q []) ((r1 ++ [(ksR rows).getD i []]).getD q []) := vl_app (by omega) (by omega) hi6 hvt
        refine lv_pop hx hb d_VA_spliced_35 rfl ?_
        refine lv_iinc (k := 0) (v := ((nI i) + Int32.ofInt 1)) hx hb d_VA_spliced_36 hl rfl rfl (by decide) rfl (fun ls hl => ?_)
        have hl : lv_has ls 6 [(5, .int ((nI i) + Int32.ofInt 1)), (4, .ref pl), (0, .ref a), (1, .int (nI t1)), (2, .int (nI o1)), (3, .null)] := hl
        rw [show nI i + Int32.ofInt 1 = nI (i + 1) from nI_1 _] at hl
        refine lv_goto (tgt := 12) hx hb d_VA_spliced_39 rfl ?_
        refine W.widen (k := (1 + acl (x1 ++ [xs.getD i 0]).length)) (n := (3 + asl (x1 ++ [xs.getD i 0]).length)) (by omega) (by omega) ?_
        exact ihp (t1 - (i + 1)) (by omega) (i + 1) u8 (x1 ++ [xs.getD i 0]) (n1 ++ [ns.getD i []]) (r1 ++ [(ksR rows).getD i []]) H locs ls rfl (by omega) (by omega) (hw10) (hnlf12) (hrlf12) (hvlf12) (by rw [hx1, take_step 0 hix]) (by rw [hn1, take_step [] (by omega)]) (by rw [hr1, take_step [] (by omega)]) (lv_sub hl [0, 1, 2, 3, 4, 5] rfl) (zz_pickP (pre := []) (fz := (u8 ++ fz)) (wc := []) hP [] rfl) (zz_pickD (pre := []) (fz := (u8 ++ fz)) (wc := []) hD [] (by decide) rfl) hS
  refine W.widen (k := (1 + acl ([] : List Nat).length)) (n := (3 + asl ([] : List Nat).length)) (by omega) (by omega) ?_
  exact hloopp _ 0 ([(pl, .inr (14, [.ref em, .int 0, .int 0]))]) ([] : List Nat) ([] : List (List Nat)) ([] : List (List Row)) _ _ ls rfl (Nat.zero_le _) (rfl) (Or.inl ⟨rfl, 0, rfl⟩) (rfl) (rfl) (fun q hq => absurd hq (Nat.not_lt_zero _)) (rfl) (rfl) (rfl) (lv_sub hl [0, 1, 2, 3, 4, 5] rfl) (zz_pickP (pre := []) (fz := ([(pl, .inr (14, [.ref em, .int 0, .int 0]))] ++ fz)) (wc := []) hP [] rfl) (zz_pickD (pre := []) (fz := ([(pl, .inr (14, [.ref em, .int 0, .int 0]))] ++ fz)) (wc := []) hD [] (by decide) rfl) hS
set_option maxHeartbeats 1000000 in
set_option maxRecDepth 100000 in
/-- spliced(place, out, in) -/
theorem k_VA_spliced1 (l : Launch) (dC : Nat → ClassId) (dI : Nat → Nat → Nat) (sz : Nat) (a : Nat) (d : Nat) (nn : List Nat) (rows : List Row) (t1 : Nat) (o1 : Nat) (yi : Nat) (sn : List Nat) (vr : List Row) (cB : ClassId) (cO : ClassId) (em : Nat) (aK : Nat → Nat) (aV : Nat → Nat) (fz : va_W) (hv : VT cB cO em aK (d + 1) fz a nn rows) (hk9 : hdK rows = 5 ∨ hdK rows = 6) (ht : t1 + o1 ≤ (ksR rows).length) (hlen : (ksR rows).length ≤ 32) (hd : d < 90) (hin : VT cB cO em aK d fz yi sn vr) : Met l y_VA_spliced ws_VA_spliced ({ frames := 7, cells := 6, slots := 90, locals := 171 }) (va_Pc [.ref a, .int (nI t1), .int (nI o1), .ref yi] (fun U => U.heap.size = sz ∧ va_P (dC, dI) vwCl ([] ++ fz) U.heap ∧ va_K (dC, dI) vwCl [(cB, .byte), (cO, .object "java/lang/Object")] U ∧ va_D (fun _ => True) ([] ++ fz) ∧ EX em aK aV (va_A ([] ++ fz) sz) U U.heap)) (va_Qq (fun (r : Option Nat) (u : va_W) => ∃ y8, r = some y8 ∧ VT cB cO em aK (d + 1) (u ++ fz) y8 nn (spc rows t1 o1 [(sn, vr)])) (fun u t => va_P (dC, dI) vwCl ([] ++ (u ++ fz)) t.heap ∧ va_K (dC, dI) vwCl [(cB, .byte), (cO, .object "java/lang/Object")] t ∧ va_D (va_A ([] ++ fz) sz) ([] ++ (u ++ fz))) (va_A ([] ++ fz) sz)) 6 90 (va_A ([] ++ fz) sz) := by
  refine Met.ofW (cc := c_VA_spliced) (maxL := 6) (ret := (some (.object "PatchStore$Value"))) (by decide) rfl ?_
  intro p e s m args below meth c s₁ B hml hv
  obtain ⟨hargs, hsz, hP, hK, hD0, hE⟩ := hv
  rw [show entryFrame m args 6 = entryFrame m ([.ref a, .int (nI t1), .int (nI o1), .ref yi]).toArray 6 by rw [hargs]]
  have hx := B.exec
  have hb := B.bytes
  have hr := B.returns
  have hts := atoms_spec (ws := ws_VA_spliced) B.pre
  have htb := fun w (h : w ∈ TBL) => hts w (List.mem_cons_of_mem _ h)
  have hown : s.vm.findClass R_VA = some m.cls := findClass_of_methodNamed B.named
  have hlocks := B.notSynchronized
  subst hsz
  have hD := hD0.self (sz := s.heap.size)
  generalize hAe : va_A ([] ++ fz) s.heap.size = A at hD hE ⊢
  have hA : ∀ q : Nat, s.heap.size ≤ q → A q := fun q h => by rw [← hAe]; exact Or.inr h
  have hS : va_S A s.heap s.heap [] := va_S.rf
  have hP : va_P (dC, dI) vwCl ([] ++ fz) s.heap := hP
  have hl := lv_entry ([.ref a, .int (nI t1), .int (nI o1), .ref yi]) (n := 6) (Nat.le_of_ble_eq_true rfl)
  rw [lg_entry_eq]
  generalize (lg_sl ([.ref a, .int (nI t1), .int (nI o1), .ref yi]) ++ List.replicate (6 - (lg_sl ([.ref a, .int (nI t1), .int (nI o1), .ref yi])).length) Slot.unset).toArray = ls at hl ⊢
  have hl : lv_has ls 6 [(0, .ref a), (1, .int (nI t1)), (2, .int (nI o1)), (3, .ref yi)] := hl
  refine zz_nQ (fun Q hQ => ?_)
  obtain ⟨kd, tx, nu, nm, pa, dp, cn, tt, kk, num, rt, xs, ns, hc, htx, hnm, hal, hhd, hnl, hrl, hk5, hvl, hhk, hns, hdp, hcn, hrw, h160⟩ := (id hv : VT cB cO em aK (d + 1) fz a nn rows).opn
  refine va_new (ci := 14) (fs := [.null, .int 0, .int 0]) (C := R_AL) (T := T_AL) (N := 3) hx hb htb in_AL ty_AL ty_AL_ok hown (htb _ m_376) (htb _ m_74) (htb _ m_8) hK hP hD hS hA rfl (fun j hj => by rcases (show j = 0 ∨ j = 1 ∨ j = 2 by omega) with rfl | rfl | rfl <;> rfl) ((by show 1 ≤ 6; omega)) ((by show 3 ≤ 90; omega)) d_VA_spliced_0 (fun pl H hP hD hS => ?_)
  have hP := zz_rotP (pre := []) (fz := fz) hP
  have hD := zz_rotD (pre := []) (fz := fz) hD
  have hP : va_P (dC, dI) vwCl ([(pl, .inr (14, [.null, .int 0, .int 0]))] ++ fz) H := hP
  have hD : va_D A ([(pl, .inr (14, [.null, .int 0, .int 0]))] ++ fz) := hD
  refine W.widen (k := 1) (n := 3) (Nat.le_of_ble_eq_true rfl) (Nat.le_of_ble_eq_true rfl) ?_
  refine lv_dup hx hb d_VA_spliced_3 rfl ?_
  have hPc := hP.sub (ws' := [(pl, .inr (14, [.null, .int 0, .int 0]))]) [0] rfl
  have hDc := hD.sub (ws' := [(pl, .inr (14, [.null, .int 0, .int 0]))]) [0] (by decide) rfl
  have hFc := va_free (wc := [(pl, .inr (14, [.null, .int 0, .int 0]))]) hD hS hA [0] rfl
  have hKc := hK.sub (tys' := []) [] rfl
  refine va_callv (va_runI (As := []) (rest := [.ref pl]) ⟨hx, hb, hml, hown, htb⟩ (k_AL_init l dC dI _ pl em aK aV ) (cwI 0 htb (g_all (fun _ h => h) m_77) rfl rfl rfl (htb _ m_8) (htb _ m_377) (htb _ m_76) rfl (by decide +kernel) ⟨Nat.le_of_ble_eq_true rfl, Nat.le_of_ble_eq_true rfl⟩) ⟨fun a U g mk q => by obtain ⟨q0, q1, qP, qK, qD, z0⟩ := q; exact ⟨q0, q1, qP, va_K.moved (u := U) (U := U.calling g mk a) (Vm.Alike.refl U.vm) qK, qD, EX.same (U := U) (U' := U.calling g mk a) rfl z0⟩, fun U hU hW => ⟨rfl, by rw [hU], by rw [hU]; exact hPc, va_K.moved hW.alike hKc, hDc.weaken (fun _ _ _ _ => trivial), by rw [hU]; exact EX.warm hW ((hE.kept (fun a h1 h2 => hS.2.1 a h1 h2)).narrow hFc)⟩⟩ rfl rfl hl.1 rfl (lv_room (Nat.le_of_ble_eq_true rfl)) d_VA_spliced_4 ⟨(by show 1 ≤ 6; omega), (by show 3 ≤ 90; omega)⟩) hS (fun q _ h => hFc q h) hFc (fun u1 t H1 locs ht hvm hw3 hB hz1 hk1 hS => ?_)
  obtain ⟨hP1, hK1, hD1⟩ := hB
  rw [ht] at hP1
  have hK1 := va_K.moved hvm.symm hK1
  have hw3 : True := hw3
  obtain ⟨hP, hD⟩ := zz_joinN (pre := [(pl, .inr (14, [.null, .int 0, .int 0]))]) (fz := fz) (wc := [(pl, .inr (14, [.null, .int 0, .int 0]))]) (wr := []) (w1 := [(pl, .inr (14, [.ref em, .int 0, .int 0]))]) hP hD [0] [] rfl rfl (by decide) (by decide) hk1 hFc hP1 hD1
  have hK := (hK.sub (tys' := [(cB, .byte), (cO, .object "java/lang/Object")]) [0, 1] rfl).app hK1
  generalize H1 = H at hP hS ⊢
  have hP : va_P (dC, dI) vwCl ([(pl, .inr (14, [.ref em, .int 0, .int 0]))] ++ fz) H := hP
  have hD : va_D A ([(pl, .inr (14, [.ref em, .int 0, .int 0]))] ++ fz) := hD
  have hK : va_K (dC, dI) vwCl [(cB, .byte), (cO, .object "java/lang/Object")] s := hK
  refine lv_astore hx hb d_VA_spliced_7 hl (by decide) rfl (fun ls hl => ?_)
  have hl : lv_has ls 6 [(4, .ref pl), (0, .ref a), (1, .int (nI t1)), (2, .int (nI o1)), (3, .ref yi)] := hl
  refine lv_iconst (v := 0) hx hb d_VA_spliced_9 (by decide) ?_
  refine lv_istore hx hb d_VA_spliced_10 hl (by decide) rfl (fun ls hl => ?_)
  have hl : lv_has ls 6 [(5, .int 0), (4, .ref pl), (0, .ref a), (1, .int (nI t1)), (2, .int (nI o1)), (3, .ref yi)] := hl
  have hP := zz_pickP (pre := [(pl, .inr (14, [.ref em, .int 0, .int 0]))]) (fz := fz) (wc := [(pl, .inr (14, [.ref em, .int 0, .int 0]))]) hP [0] rfl
  have hD := zz_pickD (pre := [(pl, .inr (14, [.ref em, .int 0, .int 0]))]) (fz := fz) (wc := [(pl, .inr (14, [.ref em, .int 0, .int 0]))]) hD [0] (by decide) rfl
  have hP : va_P (dC, dI) vwCl ([] ++ ([(pl, .inr (14, [.ref em, .int 0, .int 0]))] ++ fz)) _ := hP
  have hD : va_D A ([] ++ ([(pl, .inr (14, [.ref em, .int 0, .int 0]))] ++ fz)) := hD
  have hloopp : ∀ (k9p : Nat) (i : Nat) (lz : va_W) (x1 : List Nat) (n1 : List (List Nat)) (r1 : List (List Row)) (H : Heap) (locs : List Loc) (ls : Array Slot), t1 - i = k9p → (i ≤ t1) → (x1.length = i) → (ALc cO em pl x1 lz) → (n1.length = x1.length) → (r1.length = x1.length) → (∀ q, q < x1.length → VT cB cO em aK d fz (x1.getD q 0) (n1.getD q []) (r1.getD q [])) → (x1 = xs.take i) → (n1 = ns.take i) → (r1 = (ksR rows).take i) → lv_has ls 6 [(5, .int (nI i)), (4, .ref pl), (0, .ref a), (1, .int (nI t1)), (2, .int (nI o1)), (3, .ref yi)] → va_P (dC, dI) vwCl ([] ++ (lz ++ fz)) H → va_D A ([] ++ (lz ++ fz)) → va_S A s.heap H locs → W p l e (headSpec ws_VA_spliced ({ frames := 7, cells := 6, slots := 90, locals := 171 })).room s m args below meth c H locs (1 + acl x1.length) (3 + asl x1.length) Q (F0 m 12 ls []) := by
    intro k9p
    induction k9p using Nat.strongRecOn with
    | ind k9p ihp =>
      intro i lz x1 n1 r1 H locs ls hk9p hi1 hil hiL hi3 hi4 hi6 hx1 hn1 hr1 hl hP hD hS
      have hac0 := ac_33 x1.length (by omega)
      refine lv_iload hx hb d_VA_spliced_12 (lv_at hl 0 rfl) ?_
      refine lv_iload_n hx hb d_VA_spliced_14 rfl (lv_at hl 3 rfl) ?_
      refine lv_icmp_ge (tgt := 42) hx hb d_VA_spliced_15 rfl (fun h1 => ?_) (fun h1 => ?_)
      · have h1 : t1 ≤ i := (nI_leI (by omega) (by omega)).mp h1
        have hit : i = t1 := by omega
        rw [hit] at hx1 hn1 hr1
        have hx1l : x1.length = t1 := by omega
        refine lv_aload_n hx hb d_VA_spliced_42 rfl (lv_at hl 5 rfl) ?_
        refine lv_ifnull hx hb d_VA_spliced_43 ?_
        refine lv_aload hx hb d_VA_spliced_46 (lv_at hl 1 rfl) ?_
        refine lv_aload_n hx hb d_VA_spliced_48 rfl (lv_at hl 5 rfl) ?_
        have hin8 := hin
        have hac := ac_mono x1.length (by omega)
        have hac1 := ac_33 (x1.length + 1) (by omega)
        have hPc := zz_pickP (pre := []) (fz := (lz ++ fz)) (wc := []) hP [] rfl
        have hDc := zz_pickD (pre := []) (fz := (lz ++ fz)) (wc := []) hD [] (by decide) rfl
        have hFc := zz_free (pre := []) (fz := (lz ++ fz)) (wc := []) hD hS hA [] rfl
        have hKc := hK.sub (tys' := [(cO, .object "java/lang/Object")]) [1] rfl
        refine va_calli (va_runV (As := [.ref yi]) (rest := []) ⟨hx, hb, hml, hown, htb⟩ (k_AL_add l dC dI _ pl x1 cO 3 yi em aK aV lz fz Oci3 hiL (of_getD (z := 0) (fun i hi => (hi6 i hi).vin)) ((hin).vin) (by omega)) (cwV 1 htb (g_V (fun _ h => h) m_525 m_827 m_523 m_524 m_8) rfl rfl rfl (by decide +kernel) ⟨Nat.le_of_ble_eq_true rfl, Nat.le_of_ble_eq_true rfl⟩) ⟨fun a U g mk q => by obtain ⟨q0, q1, qP, qK, qD, z0⟩ := q; exact ⟨q0, q1, qP, va_K.moved (u := U) (U := U.calling g mk a) (Vm.Alike.refl U.vm) qK, qD, EX.same (U := U) (U' := U.calling g mk a) rfl z0⟩, (hiL.frozen).recv hK hP (fun q hq => List.mem_append_right _ (List.mem_append_left _ hq)), fun U hU hW => ⟨rfl, by rw [hU], by rw [hU]; exact hPc, va_K.moved hW.alike hKc, hDc.weaken (fun _ _ _ _ => trivial), by rw [hU]; exact EX.warm hW ((hE.kept (fun a h1 h2 => hS.2.1 a h1 h2)).narrow hFc)⟩⟩ rfl rfl hl.1 rfl (lv_room (Nat.le_of_ble_eq_true rfl)) d_VA_spliced_49 ⟨(by show ((1 + acl x1.length) + (acl (x1.length + 1) - acl x1.length)) ≤ 6; omega), (by show ((3 + asl x1.length) + (asl (x1.length + 1) - asl x1.length)) ≤ 90; omega)⟩) hS (fun q _ h => hFc q h) hFc (fun r6 u5 t H1 locs ht hvm hw7 hB hz1 hk1 hS => ?_)
        obtain ⟨hP1, hK1, hD1⟩ := hB
        rw [ht] at hP1
        have hK1 := va_K.moved hvm.symm hK1
        have hw7 : ALc cO em pl (x1 ++ [yi]) u5 := hw7
        obtain ⟨hP, hD⟩ := zz_join (pre := []) (fz := (lz ++ fz)) (wc := []) (wr := []) (w1 := ([] ++ (u5 ++ fz))) hP hD [] [] rfl rfl (by decide) (by decide) hk1 hFc hP1 hD1
        have hK := (hK.sub (tys' := [(cB, .byte)]) [0] rfl).app hK1
        generalize H1 = H at hP hS ⊢
        have hP : va_P (dC, dI) vwCl ([] ++ (u5 ++ fz)) H := hP
        have hD : va_D A ([] ++ (u5 ++ fz)) := hD
        have hK : va_K (dC, dI) vwCl [(cB, .byte), (cO, .object "java/lang/Object")] s := hK
        have hxlf9 : (x1 ++ [yi]).length = x1.length + 1 := by simp
        have haxf9 : acl (x1 ++ [yi]).length = acl (x1.length + 1) := by rw [hxlf9]
        have hayf9 : asl (x1 ++ [yi]).length = asl (x1.length + 1) := by rw [hxlf9]
        have hnlf9 : (n1 ++ [sn]).length = (x1 ++ [yi]).length := by simp; omega
        have hrlf9 : (r1 ++ [vr]).length = (x1 ++ [yi]).length := by simp; omega
        have hvlf9 : ∀ q, q < (x1 ++ [yi]).length → VT cB cO em aK d fz ((x1 ++ [yi]).getD q 0) ((n1 ++ [sn]).getD q []) ((r1 ++ [vr]).getD q []) := vl_app (by omega) (by omega) hi6 hin
        refine lv_pop hx hb d_VA_spliced_52 rfl ?_
        refine lv_iload_n hx hb d_VA_spliced_53 rfl (lv_at hl 3 rfl) ?_
        refine lv_iload_n hx hb d_VA_spliced_54 rfl (lv_at hl 4 rfl) ?_
        refine lv_iadd hx hb d_VA_spliced_55 ?_
        refine W.eq (congrArg (fun z => F0 m 56 ls (.int z :: [])) (nI_add _ _ : ((nI t1) + (nI o1)) = nI (t1 + o1))) ?_
        refine lv_istore hx hb d_VA_spliced_56 hl (by decide) rfl (fun ls hl => ?_)
        have hl : lv_has ls 6 [(5, .int (nI (t1 + o1))), (4, .ref pl), (0, .ref a), (1, .int (nI t1)), (2, .int (nI o1)), (3, .ref yi)] := hl
        have hloopr : ∀ (k9r : Nat) (j : Nat) (lz2 : va_W) (x2 : List Nat) (n2 : List (List Nat)) (r2 : List (List Row)) (H : Heap) (locs : List Loc) (ls : Array Slot), xs.length - j = k9r → (j ≤ xs.length) → (t1 + o1 ≤ j) → (x2.length = t1 + 1 + (j - (t1 + o1))) → (ALc cO em pl x2 lz2) → (n2.length = x2.length) → (r2.length = x2.length) → (∀ q, q < x2.length → VT cB cO em aK d fz (x2.getD q 0) (n2.getD q []) (r2.getD q [])) → (x2 = xs.take t1 ++ ([yi] ++ (xs.drop (t1 + o1)).take (j - (t1 + o1)))) → (n2 = ns.take t1 ++ ([sn] ++ (ns.drop (t1 + o1)).take (j - (t1 + o1)))) → (r2 = (ksR rows).take t1 ++ ([vr] ++ ((ksR rows).drop (t1 + o1)).take (j - (t1 + o1)))) → lv_has ls 6 [(5, .int (nI j)), (4, .ref pl), (0, .ref a)] → va_P (dC, dI) vwCl ([] ++ (lz2 ++ fz)) H → va_D A ([] ++ (lz2 ++ fz)) → va_S A s.heap H locs → W p l e (headSpec ws_VA_spliced ({ frames := 7, cells := 6, slots := 90, locals := 171 })).room s m args below meth c H locs (1 + acl x2.length) (3 + asl x2.length) Q (F0 m 58 ls []) := by
          intro k9r
          induction k9r using Nat.strongRecOn with
          | ind k9r ihr =>
            intro j lz2 x2 n2 r2 H locs ls hk9r hj0 hj00 hjl hj1 hj3 hj4 hj6 hx2 hn2 hr2 hl hP hD hS
            have hac0 := ac_33 x2.length (by omega)
            have hal8 : ALz cO em (lz2 ++ fz) pa xs := hal.mono (fun q hq => List.mem_append_right _ hq)
            refine lv_iload hx hb d_VA_spliced_58 (lv_at hl 0 rfl) ?_
            refine lv_aload_n hx hb d_VA_spliced_60 rfl (lv_at hl 2 rfl) ?_
            obtain ⟨qz10, hz10⟩ := List.getElem?_of_mem (List.mem_append_right [] (List.mem_append_right _ hc))
            refine va_get (D := (dC, dI)) (ci := 3) (v := .ref pa) (C := R_VA) (T := T_VA) (N := 7) hx hb htb in_VA hown hK hP qz10 hz10 rfl 4 (by decide) (htb _ m_393) (fun _ h9 => h9) rfl d_VA_spliced_61 ?_
            have hPc : va_P (dC, dI) vwCl ([] ++ (lz2 ++ fz)) _ := zz_tlP (pre := []) (tl := (lz2 ++ fz)) hP
            have hKc := hK.sub (tys' := []) [] rfl
            refine vp_callSi (W.runV (As := []) (rest := [.int (nI j)]) ⟨hx, hb, hml, hown, htb⟩ (z_AL_size l dC dI pa xs cO em (lz2 ++ fz) hal8) (cwV 0 htb (g_V (fun _ h => h) m_486 m_483 m_484 m_485 m_8) rfl rfl rfl (by decide +kernel) ⟨Nat.le_of_ble_eq_true rfl, Nat.le_of_ble_eq_true rfl⟩) ⟨fun a U g mk q => by obtain ⟨q0, qP, qK⟩ := q; exact ⟨q0, qP, va_K.moved (u := U) (U := U.calling g mk a) (Vm.Alike.refl U.vm) qK⟩, (hal8).recv hK hP (fun q hq => List.mem_append_right _ hq), fun U hU hW => ⟨rfl, by rw [hU]; exact hPc, va_K.moved hW.alike hKc⟩⟩ rfl rfl hl.1 rfl (lv_room (Nat.le_of_ble_eq_true rfl)) d_VA_spliced_64 ⟨(by show (1 + acl x2.length) ≤ 6; omega), (by show (3 + asl x2.length) ≤ 90; omega)⟩) (fun r11 hw12 => ?_)
            have hw12 : r11 = nI xs.length := hw12
            obtain rfl := hw12
            refine lv_icmp_ge (tgt := 94) hx hb d_VA_spliced_67 rfl (fun h2 => ?_) (fun h2 => ?_)
            · have h2 : xs.length ≤ j := (nI_leI (by omega) (by omega)).mp h2
              have hx2 : x2 = xs.take t1 ++ ([yi] ++ xs.drop (t1 + o1)) := by rw [hx2, (List.take_of_length_le (by rw [List.length_drop]; omega) : (xs.drop (t1 + o1)).take (j - (t1 + o1)) = xs.drop (t1 + o1))]
              have hn2 : n2 = ns.take t1 ++ ([sn] ++ ns.drop (t1 + o1)) := by rw [hn2, (List.take_of_length_le (by rw [List.length_drop]; omega) : (ns.drop (t1 + o1)).take (j - (t1 + o1)) = ns.drop (t1 + o1))]
              have hr2 : r2 = (ksR rows).take t1 ++ ([vr] ++ (ksR rows).drop (t1 + o1)) := by rw [hr2, (List.take_of_length_le (by rw [List.length_drop]; omega) : ((ksR rows).drop (t1 + o1)).take (j - (t1 + o1)) = (ksR rows).drop (t1 + o1))]
              have hx2l : x2.length < 34 := by omega
              have hac9 := ac_33 _ hx2l
              refine va_new (ci := 3) (fs := [.int 0, .null, .long 0, .null, .null, .int 0, .int 0]) (C := R_VA) (T := T_VA) (N := 7) hx hb htb in_VA ty_VA ty_VA_ok hown (htb _ m_499) (htb _ m_370) (htb _ m_18) hK hP hD hS hA rfl (fun j hj => by rcases (show j = 0 ∨ j = 1 ∨ j = 2 ∨ j = 3 ∨ j = 4 ∨ j = 5 ∨ j = 6 by omega) with rfl | rfl | rfl | rfl | rfl | rfl | rfl <;> rfl) ((by show ((1 + acl x2.length) + 1) ≤ 6; omega)) ((by show ((3 + asl x2.length) + 7) ≤ 90; omega)) d_VA_spliced_94 (fun zv H hP hD hS => ?_)
              have hP := zz_rotP (pre := []) (fz := (lz2 ++ fz)) hP
              have hD := zz_rotD (pre := []) (fz := (lz2 ++ fz)) hD
              have hP : va_P (dC, dI) vwCl ([(zv, .inr (3, [.int 0, .null, .long 0, .null, .null, .int 0, .int 0]))] ++ (lz2 ++ fz)) H := hP
              have hD : va_D A ([(zv, .inr (3, [.int 0, .null, .long 0, .null, .null, .int 0, .int 0]))] ++ (lz2 ++ fz)) := hD
              refine lv_dup hx hb d_VA_spliced_97 rfl ?_
              refine lv_aload_n hx hb d_VA_spliced_98 rfl (lv_at hl 2 rfl) ?_
              obtain ⟨qz13, hz13⟩ := List.getElem?_of_mem (List.mem_append_right [(zv, .inr (3, [.int 0, .null, .long 0, .null, .null, .int 0, .int 0]))] (List.mem_append_right _ hc))
              refine va_get (D := (dC, dI)) (ci := 3) (v := .int kd) (C := R_VA) (T := T_VA) (N := 7) hx hb htb in_VA hown hK hP qz13 hz13 rfl 0 (by decide) (htb _ m_378) (fun _ h9 => h9) rfl d_VA_spliced_99 ?_
              refine lv_aload hx hb d_VA_spliced_102 (lv_at hl 1 rfl) ?_
              refine lv_aload_n hx hb d_VA_spliced_104 rfl (lv_at hl 2 rfl) ?_
              obtain ⟨qz14, hz14⟩ := List.getElem?_of_mem (List.mem_append_right [(zv, .inr (3, [.int 0, .null, .long 0, .null, .null, .int 0, .int 0]))] (List.mem_append_right _ hc))
              refine va_get (D := (dC, dI)) (ci := 3) (v := .ref nm) (C := R_VA) (T := T_VA) (N := 7) hx hb htb in_VA hown hK hP qz14 hz14 rfl 3 (by decide) (htb _ m_389) (fun _ h9 => h9) rfl d_VA_spliced_105 ?_
              have hal9 : ALz cO em (lz2 ++ fz) pl x2 := hj1.frozen.mono (fun q hq => List.mem_append_left _ hq)
              have hvl9 : ∀ i, i < x2.length → VT cB cO em aK d (lz2 ++ fz) (x2.getD i 0) (n2.getD i []) (r2.getD i []) := fun i hi => (hj6 i hi).mono (fun q hq => List.mem_append_right _ hq)
              have hPc := zz_pickP (pre := [(zv, .inr (3, [.int 0, .null, .long 0, .null, .null, .int 0, .int 0]))]) (fz := (lz2 ++ fz)) (wc := [(zv, .inr (3, [.int 0, .null, .long 0, .null, .null, .int 0, .int 0]))]) hP [0] rfl
              have hDc := zz_pickD (pre := [(zv, .inr (3, [.int 0, .null, .long 0, .null, .null, .int 0, .int 0]))]) (fz := (lz2 ++ fz)) (wc := [(zv, .inr (3, [.int 0, .null, .long 0, .null, .null, .int 0, .int 0]))]) hD [0] (by decide) rfl
              have hFc := zz_free (pre := [(zv, .inr (3, [.int 0, .null, .long 0, .null, .null, .int 0, .int 0]))]) (fz := (lz2 ++ fz)) (wc := [(zv, .inr (3, [.int 0, .null, .long 0, .null, .null, .int 0, .int 0]))]) hD hS hA [0] rfl
              have hKc := hK.sub (tys' := [(cO, .object "java/lang/Object")]) [1] rfl
              refine va_callv (va_runI (As := [.int kd, .ref pl, .ref nm]) (rest := [.ref zv]) ⟨hx, hb, hml, hown, htb⟩ (k_VA_init2 l dC dI _ zv kd pl nm x2 n2 r2 d cB cO em aK aV (lz2 ++ fz) hal9 hj4 hvl9 (by omega)) (cwI 3 htb (g_all (fun _ h => h) m_482) rfl rfl rfl (htb _ m_18) (htb _ m_828) (htb _ m_481) rfl (by decide +kernel) ⟨Nat.le_of_ble_eq_true rfl, Nat.le_of_ble_eq_true rfl⟩) ⟨fun a U g mk q => by obtain ⟨q0, q1, qP, qK, qD, z0⟩ := q; exact ⟨q0, q1, qP, va_K.moved (u := U) (U := U.calling g mk a) (Vm.Alike.refl U.vm) qK, qD, EX.same (U := U) (U' := U.calling g mk a) rfl z0⟩, fun U hU hW => ⟨rfl, by rw [hU], by rw [hU]; exact hPc, va_K.moved hW.alike hKc, hDc.weaken (fun _ _ _ _ => trivial), by rw [hU]; exact EX.warm hW ((hE.kept (fun a h1 h2 => hS.2.1 a h1 h2)).narrow hFc)⟩⟩ rfl rfl hl.1 rfl (lv_room (Nat.le_of_ble_eq_true rfl)) d_VA_spliced_108 ⟨(by show ((1 + acl x2.length) + 1) ≤ 6; omega), (by show ((3 + asl x2.length) + 7) ≤ 90; omega)⟩) hS (fun q _ h => hFc q h) hFc (fun u15 t H1 locs ht hvm hw17 hB hz1 hk1 hS => ?_)
              obtain ⟨hP1, hK1, hD1⟩ := hB
              rw [ht] at hP1
              have hK1 := va_K.moved hvm.symm hK1
              have hw17 : True := hw17
              obtain ⟨hP, hD⟩ := zz_join (pre := [(zv, .inr (3, [.int 0, .null, .long 0, .null, .null, .int 0, .int 0]))]) (fz := (lz2 ++ fz)) (wc := [(zv, .inr (3, [.int 0, .null, .long 0, .null, .null, .int 0, .int 0]))]) (wr := []) (w1 := ([(zv, .inr (3, [.int kd, .ref (aK 0), .long 0, .ref nm, .ref pl, .int (nI (dmx r2 + 1)), .int (nI (1 + slen r2))]))] ++ (lz2 ++ fz))) hP hD [0] [] rfl rfl (by decide) (by decide) hk1 hFc hP1 hD1
              have hK := (hK.sub (tys' := [(cB, .byte)]) [0] rfl).app hK1
              generalize H1 = H at hP hS ⊢
              have hP : va_P (dC, dI) vwCl ([(zv, .inr (3, [.int kd, .ref (aK 0), .long 0, .ref nm, .ref pl, .int (nI (dmx r2 + 1)), .int (nI (1 + slen r2))]))] ++ (lz2 ++ fz)) H := hP
              have hD : va_D A ([(zv, .inr (3, [.int kd, .ref (aK 0), .long 0, .ref nm, .ref pl, .int (nI (dmx r2 + 1)), .int (nI (1 + slen r2))]))] ++ (lz2 ++ fz)) := hD
              have hK : va_K (dC, dI) vwCl [(cB, .byte), (cO, .object "java/lang/Object")] s := hK
              have hkd : (kd = 3 ∧ kk = 5) ∨ (kd = 4 ∧ kk = 6) := by rcases hk9 with h | h; exact Or.inl ⟨(hhd.kind.2.1).mpr (hhk.symm.trans h), hhk.symm.trans h⟩; exact Or.inr ⟨(hhd.kind.1).mpr (hhk.symm.trans h), hhk.symm.trans h⟩
              have hz0 : num = 0 ∧ rt = [] := by rcases hhd with ⟨h, _⟩ | ⟨h, _⟩ | ⟨h, _⟩ | ⟨_, _, _, h1, h2, _⟩ | ⟨_, _, _, h1, h2, _⟩; rcases hkd with h9 | h9; exact absurd (h.symm.trans h9.1) (by decide); exact absurd (h.symm.trans h9.1) (by decide); rcases hkd with h9 | h9; exact absurd (h.symm.trans h9.1) (by decide); exact absurd (h.symm.trans h9.1) (by decide); rcases hkd with h9 | h9; exact absurd (h.symm.trans h9.1) (by decide); exact absurd (h.symm.trans h9.1) (by decide); exact ⟨h1, h2⟩; exact ⟨h1, h2⟩
              have hsp : (kk, 0, 0, [], []) :: kidRows kk n2 r2 = spc rows t1 o1 [(sn, vr)] := by have h9 := spc_rows (t := t1) (o := o1) (ins := [(sn, vr)]) hrw hns (by omega) hn2; rw [hz0.1, hz0.2] at h9; rw [hr2]; exact h9
              have hP9 := zz_pickP (pre := [(zv, .inr (3, [.int kd, .ref (aK 0), .long 0, .ref nm, .ref pl, .int (nI (dmx r2 + 1)), .int (nI (1 + slen r2))]))]) (fz := (lz2 ++ fz)) (wc := [(zv, .inr (3, [.int kd, .ref (aK 0), .long 0, .ref nm, .ref pl, .int (nI (dmx r2 + 1)), .int (nI (1 + slen r2))]))]) hP [0] rfl
              have hD9 := zz_pickD (pre := [(zv, .inr (3, [.int kd, .ref (aK 0), .long 0, .ref nm, .ref pl, .int (nI (dmx r2 + 1)), .int (nI (1 + slen r2))]))]) (fz := (lz2 ++ fz)) (wc := [(zv, .inr (3, [.int kd, .ref (aK 0), .long 0, .ref nm, .ref pl, .int (nI (dmx r2 + 1)), .int (nI (1 + slen r2))]))]) hD [0] (by decide) rfl
              have hK9 := hK.sub (tys' := [(cB, .byte), (cO, .object "java/lang/Object")]) [0, 1] rfl
              rw [hQ]
              refine W.widen (k := 6) (n := 90) ((by show ((1 + acl x2.length) + 1) ≤ 6; omega)) ((by show ((3 + asl x2.length) + 7) ≤ 90; omega)) ?_
              exact W.aret (v := .ref zv) hx hb hr (Or.inl ⟨_, rfl⟩) (Or.inr ⟨_, rfl⟩) (fun t ht hW => ⟨⟨(some zv), ((zv, .inr (3, [.int kd, .ref (aK 0), .long 0, .ref nm, .ref pl, .int (nI (dmx r2 + 1)), .int (nI (1 + slen r2))])) :: lz2), rfl, ⟨_, rfl, by rw [← hsp]; exact VT.branch (d := d) (nm := nm) (pa := pl) (xs := x2) (ns := n2) (rs := r2) List.mem_cons_self (hnm.mono (fun q hq => List.mem_append_right _ hq)) (hj1.frozen.mono (fun q hq => List.mem_append_left _ (List.mem_cons_of_mem _ hq))) hkd hj3 hj4 (fun i hi => (hj6 i hi).mono (fun q hq => List.mem_append_right _ hq)) rfl rfl⟩, ⟨by rw [ht]; exact hP9, va_K.moved hW.alike hK9, hD9⟩⟩, hS.F ht⟩) hS.2.2 d_VA_spliced_111
            · have h2 : j < xs.length := Nat.not_le.mp (fun h => h2 ((nI_leI (by omega) (by omega)).mpr h))
              have hvt := hvl j h2
              obtain ⟨kd0, tx0, nu0, nm0, pa0, dp0, cn0, hc0, hn0⟩ := hvt.cellN
              have hc8 : VAc (xs.getD j 0) kd0 tx0 nu0 nm0 pa0 dp0 cn0 ∈ (lz2 ++ fz) := List.mem_append_right _ hc0
              refine lv_aload hx hb d_VA_spliced_70 (lv_at hl 1 rfl) ?_
              refine lv_aload_n hx hb d_VA_spliced_72 rfl (lv_at hl 2 rfl) ?_
              obtain ⟨qz13, hz13⟩ := List.getElem?_of_mem (List.mem_append_right [] (List.mem_append_right _ hc))
              refine va_get (D := (dC, dI)) (ci := 3) (v := .ref pa) (C := R_VA) (T := T_VA) (N := 7) hx hb htb in_VA hown hK hP qz13 hz13 rfl 4 (by decide) (htb _ m_393) (fun _ h9 => h9) rfl d_VA_spliced_73 ?_
              refine lv_iload hx hb d_VA_spliced_76 (lv_at hl 0 rfl) ?_
              have hPc : va_P (dC, dI) vwCl ([] ++ (lz2 ++ fz)) _ := zz_tlP (pre := []) (tl := (lz2 ++ fz)) hP
              have hKc := hK.sub (tys' := [(cO, .object "java/lang/Object")]) [1] rfl
              refine va_csq (W.runV (As := [.int (nI j)]) (rest := [.ref pl]) ⟨hx, hb, hml, hown, htb⟩ (z_AL_get l dC dI pa xs cO em j (lz2 ++ fz) hal8 h2) (cwV 1 htb (g_V (fun _ h => h) m_490 m_487 m_488 m_489 m_8) rfl rfl rfl (by decide +kernel) ⟨Nat.le_of_ble_eq_true rfl, Nat.le_of_ble_eq_true rfl⟩) ⟨fun a U g mk q => by obtain ⟨q0, qP, qK⟩ := q; exact ⟨q0, qP, va_K.moved (u := U) (U := U.calling g mk a) (Vm.Alike.refl U.vm) qK⟩, (hal8).recv hK hP (fun q hq => List.mem_append_right _ hq), fun U hU hW => ⟨rfl, by rw [hU]; exact hPc, va_K.moved hW.alike hKc⟩⟩ rfl rfl hl.1 rfl (lv_room (Nat.le_of_ble_eq_true rfl)) d_VA_spliced_78 ⟨(by show (1 + acl x2.length) ≤ 6; omega), (by show (3 + asl x2.length) ≤ 90; omega)⟩) (fun r14 hw15 => ?_)
              have hw15 : r14 = some (xs.getD j 0) := hw15
              obtain rfl := hw15
              refine W.eq (g2 := F0 m 81 ls [.ref (xs.getD j 0), .ref pl]) rfl ?_
              refine va_castY (C := "PatchStore$Value") hx hb hown (htb _ m_499) (nw_14 hE) (zz_recv hK hP (ci := 3) rfl (List.mem_append_right _ hc8)) d_VA_spliced_81 ?_
              have hac := ac_mono x2.length (by omega)
              have hac1 := ac_33 (x2.length + 1) (by omega)
              have hPc := zz_pickP (pre := []) (fz := (lz2 ++ fz)) (wc := []) hP [] rfl
              have hDc := zz_pickD (pre := []) (fz := (lz2 ++ fz)) (wc := []) hD [] (by decide) rfl
              have hFc := zz_free (pre := []) (fz := (lz2 ++ fz)) (wc := []) hD hS hA [] rfl
              have hKc := hK.sub (tys' := [(cO, .object "java/lang/Object")]) [1] rfl
              refine va_calli (va_runV (As := [.ref (xs.getD j 0)]) (rest := []) ⟨hx, hb, hml, hown, htb⟩ (k_AL_add l dC dI _ pl x2 cO 3 (xs.getD j 0) em aK aV lz2 fz Oci3 hj1 (of_getD (z := 0) (fun i hi => (hj6 i hi).vin)) ((hvt).vin) (by omega)) (cwV 1 htb (g_V (fun _ h => h) m_525 m_827 m_523 m_524 m_8) rfl rfl rfl (by decide +kernel) ⟨Nat.le_of_ble_eq_true rfl, Nat.le_of_ble_eq_true rfl⟩) ⟨fun a U g mk q => by obtain ⟨q0, q1, qP, qK, qD, z0⟩ := q; exact ⟨q0, q1, qP, va_K.moved (u := U) (U := U.calling g mk a) (Vm.Alike.refl U.vm) qK, qD, EX.same (U := U) (U' := U.calling g mk a) rfl z0⟩, (hj1.frozen).recv hK hP (fun q hq => List.mem_append_right _ (List.mem_append_left _ hq)), fun U hU hW => ⟨rfl, by rw [hU], by rw [hU]; exact hPc, va_K.moved hW.alike hKc, hDc.weaken (fun _ _ _ _ => trivial), by rw [hU]; exact EX.warm hW ((hE.kept (fun a h1 h2 => hS.2.1 a h1 h2)).narrow hFc)⟩⟩ rfl rfl hl.1 rfl (lv_room (Nat.le_of_ble_eq_true rfl)) d_VA_spliced_84 ⟨(by show ((1 + acl x2.length) + (acl (x2.length + 1) - acl x2.length)) ≤ 6; omega), (by show ((3 + asl x2.length) + (asl (x2.length + 1) - asl x2.length)) ≤ 90; omega)⟩) hS (fun q _ h => hFc q h) hFc (fun r17 u16 t H1 locs ht hvm hw18 hB hz1 hk1 hS => ?_)
              obtain ⟨hP1, hK1, hD1⟩ := hB
              rw [ht] at hP1
              have hK1 := va_K.moved hvm.symm hK1
              have hw18 : ALc cO em pl (x2 ++ [(xs.getD j 0)]) u16 := hw18
              obtain ⟨hP, hD⟩ := zz_join (pre := []) (fz := (lz2 ++ fz)) (wc := []) (wr := []) (w1 := ([] ++ (u16 ++ fz))) hP hD [] [] rfl rfl (by decide) (by decide) hk1 hFc hP1 hD1
              have hK := (hK.sub (tys' := [(cB, .byte)]) [0] rfl).app hK1
              generalize H1 = H at hP hS ⊢
              have hP : va_P (dC, dI) vwCl ([] ++ (u16 ++ fz)) H := hP
              have hD : va_D A ([] ++ (u16 ++ fz)) := hD
              have hK : va_K (dC, dI) vwCl [(cB, .byte), (cO, .object "java/lang/Object")] s := hK
              have hxlf20 : (x2 ++ [xs.getD j 0]).length = x2.length + 1 := by simp
              have haxf20 : acl (x2 ++ [xs.getD j 0]).length = acl (x2.length + 1) := by rw [hxlf20]
              have hayf20 : asl (x2 ++ [xs.getD j 0]).length = asl (x2.length + 1) := by rw [hxlf20]
              have hnlf20 : (n2 ++ [ns.getD j []]).length = (x2 ++ [xs.getD j 0]).length := by simp; omega
              have hrlf20 : (r2 ++ [(ksR rows).getD j []]).length = (x2 ++ [xs.getD j 0]).length := by simp; omega
              have hvlf20 : ∀ q, q < (x2 ++ [xs.getD j 0]).length → VT cB cO em aK d fz ((x2 ++ [xs.getD j 0]).getD q 0) ((n2 ++ [ns.getD j []]).getD q []) ((r2 ++ [(ksR rows).getD j []]).getD q []) := vl_app (by omega) (by omega) hj6 hvt
              refine lv_pop hx hb d_VA_spliced_87 rfl ?_
              refine lv_iinc (k := 0) (v := ((nI j) + Int32.ofInt 1)) hx hb d_VA_spliced_88 hl rfl rfl (by decide) rfl (fun ls hl => ?_)
              have hl : lv_has ls 6 [(5, .int ((nI j) + Int32.ofInt 1)), (4, .ref pl), (0, .ref a)] := hl
              rw [show nI j + Int32.ofInt 1 = nI (j + 1) from nI_1 _] at hl
              refine lv_goto (tgt := 58) hx hb d_VA_spliced_91 rfl ?_
              refine W.widen (k := (1 + acl (x2 ++ [xs.getD j 0]).length)) (n := (3 + asl (x2 ++ [xs.getD j 0]).length)) (by omega) (by omega) ?_
              exact ihr (xs.length - (j + 1)) (by omega) (j + 1) u16 (x2 ++ [xs.getD j 0]) (n2 ++ [ns.getD j []]) (r2 ++ [(ksR rows).getD j []]) H locs ls rfl (by omega) (by omega) (by omega) (hw18) (hnlf20) (hrlf20) (hvlf20) (by rw [hx2, drop_take1 0 (by omega) (by omega)]; simp) (by rw [hn2, drop_take1 [] (by omega) (by omega)]; simp) (by rw [hr2, drop_take1 [] (by omega) (by omega)]; simp) (lv_sub hl [0, 1, 2] rfl) (zz_pickP (pre := []) (fz := (u16 ++ fz)) (wc := []) hP [] rfl) (zz_pickD (pre := []) (fz := (u16 ++ fz)) (wc := []) hD [] (by decide) rfl) hS
        refine W.widen (k := (1 + acl (x1 ++ [yi]).length)) (n := (3 + asl (x1 ++ [yi]).length)) (by omega) (by omega) ?_
        exact hloopr _ (t1 + o1) u5 (x1 ++ [yi]) (n1 ++ [sn]) (r1 ++ [vr]) _ _ ls rfl (by omega) (Nat.le_refl _) (by simp; omega) (hw7) (hnlf9) (hrlf9) (hvlf9) (by rw [hx1, Nat.sub_self]; simp) (by rw [hn1, Nat.sub_self]; simp) (by rw [hr1, Nat.sub_self]; simp) (lv_sub hl [0, 1, 2] rfl) (zz_pickP (pre := []) (fz := (u5 ++ fz)) (wc := []) hP [] rfl) (zz_pickD (pre := []) (fz := (u5 ++ fz)) (wc := []) hD [] (by decide) rfl) hS
      · have h1 : i < t1 := Nat.not_le.mp (fun h => h1 ((nI_leI (by omega) (by omega)).mpr h))
        have hix : i < xs.length := by omega
        have hvt := hvl i hix
        obtain ⟨kd0, tx0, nu0, nm0, pa0, dp0, cn0, hc0, hn0⟩ := hvt.cellN
        have hal8 : ALz cO em (lz ++ fz) pa xs := hal.mono (fun q hq => List.mem_append_right _ hq)
        have hc8 : VAc (xs.getD i 0) kd0 tx0 nu0 nm0 pa0 dp0 cn0 ∈ (lz ++ fz) := List.mem_append_right _ hc0
        refine lv_aload hx hb d_VA_spliced_18 (lv_at hl 1 rfl) ?_
        refine lv_aload_n hx hb d_VA_spliced_20 rfl (lv_at hl 2 rfl) ?_
        obtain ⟨qz5, hz5⟩ := List.getElem?_of_mem (List.mem_append_right [] (List.mem_append_right _ hc))
        refine va_get (D := (dC, dI)) (ci := 3) (v := .ref pa) (C := R_VA) (T := T_VA) (N := 7) hx hb htb in_VA hown hK hP qz5 hz5 rfl 4 (by decide) (htb _ m_393) (fun _ h9 => h9) rfl d_VA_spliced_21 ?_
        refine lv_iload hx hb d_VA_spliced_24 (lv_at hl 0 rfl) ?_
        have hPc : va_P (dC, dI) vwCl ([] ++ (lz ++ fz)) _ := zz_tlP (pre := []) (tl := (lz ++ fz)) hP
        have hKc := hK.sub (tys' := [(cO, .object "java/lang/Object")]) [1] rfl
        refine va_csq (W.runV (As := [.int (nI i)]) (rest := [.ref pl]) ⟨hx, hb, hml, hown, htb⟩ (z_AL_get l dC dI pa xs cO em i (lz ++ fz) hal8 hix) (cwV 1 htb (g_V (fun _ h => h) m_490 m_487 m_488 m_489 m_8) rfl rfl rfl (by decide +kernel) ⟨Nat.le_of_ble_eq_true rfl, Nat.le_of_ble_eq_true rfl⟩) ⟨fun a U g mk q => by obtain ⟨q0, qP, qK⟩ := q; exact ⟨q0, qP, va_K.moved (u := U) (U := U.calling g mk a) (Vm.Alike.refl U.vm) qK⟩, (hal8).recv hK hP (fun q hq => List.mem_append_right _ hq), fun U hU hW => ⟨rfl, by rw [hU]; exact hPc, va_K.moved hW.alike hKc⟩⟩ rfl rfl hl.1 rfl (lv_room (Nat.le_of_ble_eq_true rfl)) d_VA_spliced_26 ⟨(by show (1 + acl x1.length) ≤ 6; omega), (by show (3 + asl x1.length) ≤ 90; omega)⟩) (fun r6 hw7 => ?_)
        have hw7 : r6 = some (xs.getD i 0) := hw7
        obtain rfl := hw7
        refine W.eq (g2 := F0 m 29 ls [.ref (xs.getD i 0), .ref pl]) rfl ?_
        refine va_castY (C := "PatchStore$Value") hx hb hown (htb _ m_499) (nw_14 hE) (zz_recv hK hP (ci := 3) rfl (List.mem_append_right _ hc8)) d_VA_spliced_29 ?_
        have hac := ac_mono x1.length (by omega)
        have hac1 := ac_33 (x1.length + 1) (by omega)
        have hPc := zz_pickP (pre := []) (fz := (lz ++ fz)) (wc := []) hP [] rfl
        have hDc := zz_pickD (pre := []) (fz := (lz ++ fz)) (wc := []) hD [] (by decide) rfl
        have hFc := zz_free (pre := []) (fz := (lz ++ fz)) (wc := []) hD hS hA [] rfl
        have hKc := hK.sub (tys' := [(cO, .object "java/lang/Object")]) [1] rfl
        refine va_calli (va_runV (As := [.ref (xs.getD i 0)]) (rest := []) ⟨hx, hb, hml, hown, htb⟩ (k_AL_add l dC dI _ pl x1 cO 3 (xs.getD i 0) em aK aV lz fz Oci3 hiL (of_getD (z := 0) (fun i hi => (hi6 i hi).vin)) ((hvt).vin) (by omega)) (cwV 1 htb (g_V (fun _ h => h) m_525 m_827 m_523 m_524 m_8) rfl rfl rfl (by decide +kernel) ⟨Nat.le_of_ble_eq_true rfl, Nat.le_of_ble_eq_true rfl⟩) ⟨fun a U g mk q => by obtain ⟨q0, q1, qP, qK, qD, z0⟩ := q; exact ⟨q0, q1, qP, va_K.moved (u := U) (U := U.calling g mk a) (Vm.Alike.refl U.vm) qK, qD, EX.same (U := U) (U' := U.calling g mk a) rfl z0⟩, (hiL.frozen).recv hK hP (fun q hq => List.mem_append_right _ (List.mem_append_left _ hq)), fun U hU hW => ⟨rfl, by rw [hU], by rw [hU]; exact hPc, va_K.moved hW.alike hKc, hDc.weaken (fun _ _ _ _ => trivial), by rw [hU]; exact EX.warm hW ((hE.kept (fun a h1 h2 => hS.2.1 a h1 h2)).narrow hFc)⟩⟩ rfl rfl hl.1 rfl (lv_room (Nat.le_of_ble_eq_true rfl)) d_VA_spliced_32 ⟨(by show ((1 + acl x1.length) + (acl (x1.length + 1) - acl x1.length)) ≤ 6; omega), (by show ((3 + asl x1.length) + (asl (x1.length + 1) - asl x1.length)) ≤ 90; omega)⟩) hS (fun q _ h => hFc q h) hFc (fun r9 u8 t H1 locs ht hvm hw10 hB hz1 hk1 hS => ?_)
        obtain ⟨hP1, hK1, hD1⟩ := hB
        rw [ht] at hP1
        have hK1 := va_K.moved hvm.symm hK1
        have hw10 : ALc cO em pl (x1 ++ [(xs.getD i 0)]) u8 := hw10
        obtain ⟨hP, hD⟩ := zz_join (pre := []) (fz := (lz ++ fz)) (wc := []) (wr := []) (w1 := ([] ++ (u8 ++ fz))) hP hD [] [] rfl rfl (by decide) (by decide) hk1 hFc hP1 hD1
        have hK := (hK.sub (tys' := [(cB, .byte)]) [0] rfl).app hK1
        generalize H1 = H at hP hS ⊢
        have hP : va_P (dC, dI) vwCl ([] ++ (u8 ++ fz)) H := hP
        have hD : va_D A ([] ++ (u8 ++ fz)) := hD
        have hK : va_K (dC, dI) vwCl [(cB, .byte), (cO, .object "java/lang/Object")] s := hK
        have hxlf12 : (x1 ++ [xs.getD i 0]).length = x1.length + 1 := by simp
        have haxf12 : acl (x1 ++ [xs.getD i 0]).length = acl (x1.length + 1) := by rw [hxlf12]
        have hayf12 : asl (x1 ++ [xs.getD i 0]).length = asl (x1.length + 1) := by rw [hxlf12]
        have hnlf12 : (n1 ++ [ns.getD i []]).length = (x1 ++ [xs.getD i 0]).length := by simp; omega
        have hrlf12 : (r1 ++ [(ksR rows).getD i []]).length = (x1 ++ [xs.getD i 0]).length := by simp; omega
        have hvlf12 : ∀ q, q < (x1 ++ [xs.getD i 0]).length → VT cB cO em aK d fz ((x1 ++ [xs.getD i 0]).getD q 0) ((n1 ++ [ns.getD i []]).getD q []) ((r1 ++ [(ksR rows).getD i []]).getD q []) := vl_app (by omega) (by omega) hi6 hvt
        refine lv_pop hx hb d_VA_spliced_35 rfl ?_
        refine lv_iinc (k := 0) (v := ((nI i) + Int32.ofInt 1)) hx hb d_VA_spliced_36 hl rfl rfl (by decide) rfl (fun ls hl => ?_)
        have hl : lv_has ls 6 [(5, .int ((nI i) + Int32.ofInt 1)), (4, .ref pl), (0, .ref a), (1, .int (nI t1)), (2, .int (nI o1)), (3, .ref yi)] := hl
        rw [show nI i + Int32.ofInt 1 = nI (i + 1) from nI_1 _] at hl
        refine lv_goto (tgt := 12) hx hb d_VA_spliced_39 rfl ?_
        refine W.widen (k := (1 + acl (x1 ++ [xs.getD i 0]).length)) (n := (3 + asl (x1 ++ [xs.getD i 0]).length)) (by omega) (by omega) ?_
        exact ihp (t1 - (i + 1)) (by omega) (i + 1) u8 (x1 ++ [xs.getD i 0]) (n1 ++ [ns.getD i []]) (r1 ++ [(ksR rows).getD i []]) H locs ls rfl (by omega) (by omega) (hw10) (hnlf12) (hrlf12) (hvlf12) (by rw [hx1, take_step 0 hix]) (by rw [hn1, take_step [] (by omega)]) (by rw [hr1, take_step [] (by omega)]) (lv_sub hl [0, 1, 2, 3, 4, 5] rfl) (zz_pickP (pre := []) (fz := (u8 ++ fz)) (wc := []) hP [] rfl) (zz_pickD (pre := []) (fz := (u8 ++ fz)) (wc := []) hD [] (by decide) rfl) hS
  refine W.widen (k := (1 + acl ([] : List Nat).length)) (n := (3 + asl ([] : List Nat).length)) (by omega) (by omega) ?_
  exact hloopp _ 0 ([(pl, .inr (14, [.ref em, .int 0, .int 0]))]) ([] : List Nat) ([] : List (List Nat)) ([] : List (List Row)) _ _ ls rfl (Nat.zero_le _) (rfl) (Or.inl ⟨rfl, 0, rfl⟩) (rfl) (rfl) (fun q hq => absurd hq (Nat.not_lt_zero _)) (rfl) (rfl) (rfl) (lv_sub hl [0, 1, 2, 3, 4, 5] rfl) (zz_pickP (pre := []) (fz := ([(pl, .inr (14, [.ref em, .int 0, .int 0]))] ++ fz)) (wc := []) hP [] rfl) (zz_pickD (pre := []) (fz := ([(pl, .inr (14, [.ref em, .int 0, .int 0]))] ++ fz)) (wc := []) hD [] (by decide) rfl) hS
