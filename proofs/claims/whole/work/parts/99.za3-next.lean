def C_SG_addChosen (d : Nat) : Prop := ∀ (l : Launch) (dC : Nat → ClassId) (dI : Nat → Nat → Nat) (sz : Nat) (g : Nat) (dj : Bool) (ss : List Sel) (al : Nat) (sx : List Nat) (a : Nat) (nn : List Nat) (x : Plc) (pl : Nat) (xs : List Nat) (LS : List Plc) (cB : ClassId) (cO : ClassId) (em : Nat) (aK : Nat → Nat) (aV : Nat → Nat) (lz : va_W) (fz : va_W) (hsg : (g, Sum.inr (9, [Value.int (bI dj), Value.ref al])) ∈ fz) (hsa : ALz cO em fz al sx) (hss : SLs cB cO em aK fz ss sx) (hv : VT cB cO em aK (d + 1) fz a nn x.2) (hd9 : d ≤ 11) (h32 : x.2.length ≤ 32) (hal : ALc cO em pl xs lz) (hls : VLS cB cO em aK fz xs LS) (hx40 : xs.length ≤ 40), Met l y_SG_addChosen ws_SG_addChosen ({ frames := (90 + 4 * d), cells := (acl (min 73 (xs.length + (evS (dj, ss) x).length)) - acl xs.length), slots := (asl (min 73 (xs.length + (evS (dj, ss) x).length)) - asl xs.length), locals := (2700 + 60 * d) }) (va_Pc [.ref g, .ref a, .ref pl] (fun U => U.heap.size = sz ∧ va_P (dC, dI) vwCl ([] ++ (lz ++ fz)) U.heap ∧ va_K (dC, dI) vwCl [(cB, .byte), (cO, .object "java/lang/Object")] U ∧ va_D (fun _ => True) ([] ++ (lz ++ fz)) ∧ EX em aK aV (va_A ([] ++ (lz ++ fz)) sz) U U.heap)) (va_Qi (fun (r : Int32) (u : va_W × List Nat) => (r = 1 ∧ ALc cO em pl (xs ++ u.2) u.1 ∧ VLS cB cO em aK fz u.2 (evS (dj, ss) x) ∧ xs.length + u.2.length ≤ 40) ∨ (r = 0 ∧ 40 < xs.length + (evS (dj, ss) x).length)) (fun u t => va_P (dC, dI) vwCl ([] ++ (u.1 ++ fz)) t.heap ∧ va_K (dC, dI) vwCl [(cB, .byte), (cO, .object "java/lang/Object")] t ∧ va_D (va_A ([] ++ (lz ++ fz)) sz) ([] ++ (u.1 ++ fz))) (va_A ([] ++ (lz ++ fz)) sz)) (acl (min 73 (xs.length + (evS (dj, ss) x).length)) - acl xs.length) (asl (min 73 (xs.length + (evS (dj, ss) x).length)) - asl xs.length) (va_A ([] ++ (lz ++ fz)) sz)
set_option maxHeartbeats 1000000 in
set_option maxRecDepth 100000 in
/-- addChosen(segment, value, list) -/
theorem k_SG_addChosen (l : Launch) (dC : Nat → ClassId) (dI : Nat → Nat → Nat) (sz : Nat) (d : Nat) (g : Nat) (dj : Bool) (ss : List Sel) (al : Nat) (sx : List Nat) (a : Nat) (nn : List Nat) (x : Plc) (pl : Nat) (xs : List Nat) (LS : List Plc) (cB : ClassId) (cO : ClassId) (em : Nat) (aK : Nat → Nat) (aV : Nat → Nat) (lz : va_W) (fz : va_W) (hsg : (g, Sum.inr (9, [Value.int (bI dj), Value.ref al])) ∈ fz) (hsa : ALz cO em fz al sx) (hss : SLs cB cO em aK fz ss sx) (hv : VT cB cO em aK (d + 1) fz a nn x.2) (hd9 : d ≤ 11) (h32 : x.2.length ≤ 32) (hal : ALc cO em pl xs lz) (hls : VLS cB cO em aK fz xs LS) (hx40 : xs.length ≤ 40) (HR : ∀ d1, d = d1 + 1 → C_SG_addChosen d1) : Met l y_SG_addChosen ws_SG_addChosen ({ frames := (90 + 4 * d), cells := (acl (min 73 (xs.length + (evS (dj, ss) x).length)) - acl xs.length), slots := (asl (min 73 (xs.length + (evS (dj, ss) x).length)) - asl xs.length), locals := (2700 + 60 * d) }) (va_Pc [.ref g, .ref a, .ref pl] (fun U => U.heap.size = sz ∧ va_P (dC, dI) vwCl ([] ++ (lz ++ fz)) U.heap ∧ va_K (dC, dI) vwCl [(cB, .byte), (cO, .object "java/lang/Object")] U ∧ va_D (fun _ => True) ([] ++ (lz ++ fz)) ∧ EX em aK aV (va_A ([] ++ (lz ++ fz)) sz) U U.heap)) (va_Qi (fun (r : Int32) (u : va_W × List Nat) => (r = 1 ∧ ALc cO em pl (xs ++ u.2) u.1 ∧ VLS cB cO em aK fz u.2 (evS (dj, ss) x) ∧ xs.length + u.2.length ≤ 40) ∨ (r = 0 ∧ 40 < xs.length + (evS (dj, ss) x).length)) (fun u t => va_P (dC, dI) vwCl ([] ++ (u.1 ++ fz)) t.heap ∧ va_K (dC, dI) vwCl [(cB, .byte), (cO, .object "java/lang/Object")] t ∧ va_D (va_A ([] ++ (lz ++ fz)) sz) ([] ++ (u.1 ++ fz))) (va_A ([] ++ (lz ++ fz)) sz)) (acl (min 73 (xs.length + (evS (dj, ss) x).length)) - acl xs.length) (asl (min 73 (xs.length + (evS (dj, ss) x).length)) - asl xs.length) (va_A ([] ++ (lz ++ fz)) sz) := by
  refine Met.ofW (cc := c_SG_addChosen) (maxL := 4) (ret := (some .boolean)) (by decide) rfl ?_
  intro p e s m args below meth c s₁ B hml hv
  obtain ⟨hargs, hsz, hP, hK, hD0, hE⟩ := hv
  rw [show entryFrame m args 4 = entryFrame m ([.ref g, .ref a, .ref pl]).toArray 4 by rw [hargs]]
  have hx := B.exec
  have hb := B.bytes
  have hr := B.returns
  have hts := atoms_spec (ws := ws_SG_addChosen) B.pre
  have htb := fun w (h : w ∈ TBL) => hts w (List.mem_cons_of_mem _ h)
  have hown : s.vm.findClass R_SG = some m.cls := findClass_of_methodNamed B.named
  have hlocks := B.notSynchronized
  subst hsz
  have hD := hD0.self (sz := s.heap.size)
  generalize hAe : va_A ([] ++ (lz ++ fz)) s.heap.size = A at hD hE ⊢
  have hA : ∀ q : Nat, s.heap.size ≤ q → A q := fun q h => by rw [← hAe]; exact Or.inr h
  have hS : va_S A s.heap s.heap [] := va_S.rf
  have hP : va_P (dC, dI) vwCl ([] ++ (lz ++ fz)) s.heap := hP
  have hl := lv_entry ([.ref g, .ref a, .ref pl]) (n := 4) (Nat.le_of_ble_eq_true rfl)
  rw [lg_entry_eq]
  generalize (lg_sl ([.ref g, .ref a, .ref pl]) ++ List.replicate (4 - (lg_sl ([.ref g, .ref a, .ref pl])).length) Slot.unset).toArray = ls at hl ⊢
  replace hl : lv_has ls 4 [(0, .ref g), (1, .ref a), (2, .ref pl)] := hl
  refine zz_nQ (fun Q hQ => ?_)
  obtain ⟨kd, tx, nu, nm, pa, dp, cn, tt, kk, num, rt, ks, ns, hc, htx, hnm, hkl, hhd, hnl, hrl, hkf, hvl, hhk, hns, hdp, hcn, hrw, h160⟩ := (id hv : VT cB cO em aK (d + 1) fz a nn x.2).opn
  have hk32 := ks_32 hv h32
  have hwr := hv.wr
  have hge := evS_ge (dj := dj) (ss := ss) hwr hd9
  have hsl160 := hsa.1
  refine lv_iconst (v := 0) hx hb d_SG_addChosen_0 (by decide) ?_
  refine lv_istore_n hx hb d_SG_addChosen_1 rfl hl (by decide) rfl (fun ls hl => ?_)
  replace hl : lv_has ls 4 [(3, .int 0), (0, .ref g), (1, .ref a), (2, .ref pl)] := hl
  replace hl : lv_has ls 4 [(3, .int (nI 0)), (0, .ref g), (1, .ref a), (2, .ref pl)] := hl
  have hloopp : ∀ (k9p : Nat) (i : Nat) (lz1 : va_W) (x1 : List Nat) (H : Heap) (locs : List Loc) (ls : Array Slot), sx.length - i = k9p → (i ≤ sx.length) → (ALc cO em pl (xs ++ x1) lz1) → (VLS cB cO em aK fz x1 (chA (ss.take i) x)) → (xs.length + x1.length ≤ 40) → lv_has ls 4 [(3, .int (nI i)), (2, .ref pl), (1, .ref a), (0, .ref g)] → va_P (dC, dI) vwCl ([] ++ (lz1 ++ fz)) H → va_D A ([] ++ (lz1 ++ fz)) → va_S A s.heap H locs → W p l e (headSpec ws_SG_addChosen ({ frames := (90 + 4 * d), cells := (acl (min 73 (xs.length + (evS (dj, ss) x).length)) - acl xs.length), slots := (asl (min 73 (xs.length + (evS (dj, ss) x).length)) - asl xs.length), locals := (2700 + 60 * d) })).room s m args below meth c H locs (acl (xs.length + x1.length) - acl xs.length) (asl (xs.length + x1.length) - asl xs.length) Q (F0 m 2 ls []) := by
    intro k9p
    induction k9p using Nat.strongRecOn with
    | ind k9p ihp =>
      intro i lz1 x1 H locs ls hk9p hi0 hiL hi6 hx40b hl hP hD hS
      have hgr1 : ∀ q ∈ fz, q ∈ (lz1 ++ fz) := fun q hq => List.mem_append_right _ hq
      have hx1 := hi6.1
      have hlx : (xs ++ x1).length = xs.length + x1.length := List.length_append
      have hsa9 := hsa.mono hgr1
      have hcle := chA_le (ss := ss) (x := x) i
      have hm0 := ac_min (k := 0) (m := xs.length + x1.length) (n := xs.length + (evS (dj, ss) x).length) (by omega) (by omega)
      have hu0 := ac_up xs.length (xs.length + x1.length) (by omega) (by omega)
      refine lv_iload_n hx hb d_SG_addChosen_2 rfl (lv_at hl 0 rfl) ?_
      refine lv_aload_n hx hb d_SG_addChosen_3 rfl (lv_at hl 3 rfl) ?_
      obtain ⟨qz21, hz21⟩ := List.getElem?_of_mem (List.mem_append_right [] (hgr1 _ hsg))
      refine va_get (D := (dC, dI)) (ci := 9) (v := .ref al) (C := R_SG) (T := T_SG) (N := 2) hx hb htb in_SG hown hK hP qz21 hz21 rfl 1 (by decide) (htb _ m_882) (fun _ h9 => h9) rfl d_SG_addChosen_4 ?_
      have hPc : va_P (dC, dI) vwCl ([] ++ (lz1 ++ fz)) _ := zz_tlP (pre := []) (tl := (lz1 ++ fz)) hP
      have hKc := hK.sub (tys' := []) [] rfl
      refine vp_callSi (W.runV (As := []) (rest := [.int (nI i)]) ⟨hx, hb, hml, hown, htb⟩ (z_AL_size l dC dI al sx cO em (lz1 ++ fz) hsa9) (cwV 0 htb (g_V (fun _ h => h) m_486 m_1003 m_484 m_485 m_8) rfl rfl rfl (by decide +kernel) ⟨(by show 1 ≤ (90 + 4 * d); omega), (by show 20 ≤ (2700 + 60 * d); omega)⟩) ⟨fun a U g mk q => by obtain ⟨q0, qP, qK⟩ := q; exact ⟨q0, qP, va_K.moved (u := U) (U := U.calling g mk a) (Vm.Alike.refl U.vm) qK⟩, (hsa9).recv hK hP (fun q hq => List.mem_append_right _ hq), fun U hU hW => ⟨rfl, by rw [hU]; exact hPc, va_K.moved hW.alike hKc⟩⟩ rfl rfl hl.1 rfl (lv_room (Nat.le_of_ble_eq_true rfl)) d_SG_addChosen_7 ⟨(by show (acl (xs.length + x1.length) - acl xs.length) ≤ (acl (min 73 (xs.length + (evS (dj, ss) x).length)) - acl xs.length); omega), (by show (asl (xs.length + x1.length) - asl xs.length) ≤ (asl (min 73 (xs.length + (evS (dj, ss) x).length)) - asl xs.length); omega)⟩) (fun r22 hw23 => ?_)
      replace hw23 : r22 = nI sx.length := hw23
      clear hPc hKc
      obtain rfl := hw23
      refine lv_icmp_ge (tgt := 46) hx hb d_SG_addChosen_10 rfl (fun h1 => ?_) (fun h1 => ?_)
      · have h1 : sx.length ≤ i := (nI_leI (by omega) (by omega)).mp h1
        rw [List.take_of_length_le (by have := hss.1; omega)] at hi6
        refine lv_iconst (v := 0) hx hb d_SG_addChosen_46 (by decide) ?_
        refine lv_istore_n hx hb d_SG_addChosen_47 rfl hl (by decide) rfl (fun ls hl => ?_)
        replace hl : lv_has ls 4 [(3, .int 0), (2, .ref pl), (1, .ref a), (0, .ref g)] := hl
        replace hl : lv_has ls 4 [(3, .int (nI 0)), (2, .ref pl), (1, .ref a), (0, .ref g)] := hl
        have hloopr : ∀ (k9r : Nat) (j : Nat) (lz1 : va_W) (x1 : List Nat) (H : Heap) (locs : List Loc) (ls : Array Slot), ks.length - j = k9r → (j ≤ ks.length) → (dj = false → j = 0) → (ALc cO em pl (xs ++ x1) lz1) → (VLS cB cO em aK fz x1 (chA ss x ++ ((kidsL x).take j).flatMap (evS (dj, ss)))) → (xs.length + x1.length ≤ 40) → lv_has ls 4 [(3, .int (nI j)), (2, .ref pl), (1, .ref a), (0, .ref g)] → va_P (dC, dI) vwCl ([] ++ (lz1 ++ fz)) H → va_D A ([] ++ (lz1 ++ fz)) → va_S A s.heap H locs → W p l e (headSpec ws_SG_addChosen ({ frames := (90 + 4 * d), cells := (acl (min 73 (xs.length + (evS (dj, ss) x).length)) - acl xs.length), slots := (asl (min 73 (xs.length + (evS (dj, ss) x).length)) - asl xs.length), locals := (2700 + 60 * d) })).room s m args below meth c H locs (acl (xs.length + x1.length) - acl xs.length) (asl (xs.length + x1.length) - asl xs.length) Q (F0 m 48 ls []) := by
          intro k9r
          induction k9r using Nat.strongRecOn with
          | ind k9r ihr =>
            intro j lz1 x1 H locs ls hk9r hj hjf hiL hi6 hx40b hl hP hD hS
            have hgr1 : ∀ q ∈ fz, q ∈ (lz1 ++ fz) := fun q hq => List.mem_append_right _ hq
            have hx1 := hi6.1
            have hlx : (xs ++ x1).length = xs.length + x1.length := List.length_append
            have hkl9 := hkl.mono hgr1
            have hkf := kid_fle (dj := dj) (ss := ss) (x := x) j
            refine lv_aload_n hx hb d_SG_addChosen_48 rfl (lv_at hl 3 rfl) ?_
            obtain ⟨qz24, hz24⟩ := List.getElem?_of_mem (List.mem_append_right [] (hgr1 _ hsg))
            refine va_get (D := (dC, dI)) (ci := 9) (v := .int (bI dj)) (C := R_SG) (T := T_SG) (N := 2) hx hb htb in_SG hown hK hP qz24 hz24 rfl 0 (by decide) (htb _ m_880) (fun _ h9 => h9) rfl d_SG_addChosen_49 ?_
            refine lv_if_eq (tgt := 93) hx hb d_SG_addChosen_52 rfl (fun h3 => ?_) (fun h3 => ?_)
            · have hdf : dj = false := bI_eq.mp h3
              have hj0 := hjf hdf
              have hEv : (evS (dj, ss) x) = chA ss x := by rw [hdf]; rfl
              have hm0 := ac_min (k := 0) (m := xs.length + x1.length) (n := xs.length + (evS (dj, ss) x).length) (by rw [hj0] at hi6; have := hi6.1; rw [List.take_zero, List.flatMap_nil, List.append_nil] at this; omega) (by omega)
              have hu0 := ac_up xs.length (xs.length + x1.length) (by omega) (by omega)
              refine lv_iconst (v := 1) hx hb d_SG_addChosen_93 (by decide) ?_
              have hP9 := zz_pickP (pre := []) (fz := (lz1 ++ fz)) (wc := []) hP [] rfl
              have hD9 := zz_pickD (pre := []) (fz := (lz1 ++ fz)) (wc := []) hD [] (by decide) rfl
              have hK9 := hK.sub (tys' := [(cB, .byte), (cO, .object "java/lang/Object")]) [0, 1] rfl
              rw [hQ]
              refine W.widen (k := (acl (min 73 (xs.length + (evS (dj, ss) x).length)) - acl xs.length)) (n := (asl (min 73 (xs.length + (evS (dj, ss) x).length)) - asl xs.length)) ((by show (acl (xs.length + x1.length) - acl xs.length) ≤ (acl (min 73 (xs.length + (evS (dj, ss) x).length)) - acl xs.length); omega)) ((by show (asl (xs.length + x1.length) - asl xs.length) ≤ (asl (min 73 (xs.length + (evS (dj, ss) x).length)) - asl xs.length); omega)) ?_
              exact W.zret (v := 1) hx hb hr (by decide) (fun t ht hW => ⟨⟨1, (lz1, x1), rfl, Or.inl ⟨rfl, hiL, by rw [hj0, List.take_zero, List.flatMap_nil, List.append_nil] at hi6; rw [hEv]; exact hi6, by omega⟩, ⟨by rw [ht]; exact hP9, va_K.moved hW.alike hK9, hD9⟩⟩, hS.F ht⟩) hS.2.2 d_SG_addChosen_94
            · have hdt : dj = true := bI_ne.mp h3
              have hEv : (evS (dj, ss) x) = chA ss x ++ (kidsL x).flatMap (evS (dj, ss)) := by rw [hdt]; exact evS_t hwr hd9
              have hEl : (evS (dj, ss) x).length = (chA ss x).length + ((kidsL x).flatMap (evS (dj, ss))).length := by rw [hEv, List.length_append]
              rw [List.length_append] at hx1
              have hm0 := ac_min (k := 0) (m := xs.length + x1.length) (n := xs.length + (evS (dj, ss) x).length) (by omega) (by omega)
              have hu0 := ac_up xs.length (xs.length + x1.length) (by omega) (by omega)
              refine lv_iload_n hx hb d_SG_addChosen_55 rfl (lv_at hl 0 rfl) ?_
              refine lv_aload_n hx hb d_SG_addChosen_56 rfl (lv_at hl 2 rfl) ?_
              obtain ⟨qz25, hz25⟩ := List.getElem?_of_mem (List.mem_append_right [] (hgr1 _ hc))
              refine va_get (D := (dC, dI)) (ci := 3) (v := .ref pa) (C := R_VA) (T := T_VA) (N := 7) hx hb htb in_VA hown hK hP qz25 hz25 rfl 4 (by decide) (htb _ m_396) (fun _ h9 => h9) rfl d_SG_addChosen_57 ?_
              have hPc : va_P (dC, dI) vwCl ([] ++ (lz1 ++ fz)) _ := zz_tlP (pre := []) (tl := (lz1 ++ fz)) hP
              have hKc := hK.sub (tys' := []) [] rfl
              refine vp_callSi (W.runV (As := []) (rest := [.int (nI j)]) ⟨hx, hb, hml, hown, htb⟩ (z_AL_size l dC dI pa ks cO em (lz1 ++ fz) hkl9) (cwV 0 htb (g_V (fun _ h => h) m_486 m_1003 m_484 m_485 m_8) rfl rfl rfl (by decide +kernel) ⟨(by show 1 ≤ (90 + 4 * d); omega), (by show 20 ≤ (2700 + 60 * d); omega)⟩) ⟨fun a U g mk q => by obtain ⟨q0, qP, qK⟩ := q; exact ⟨q0, qP, va_K.moved (u := U) (U := U.calling g mk a) (Vm.Alike.refl U.vm) qK⟩, (hkl9).recv hK hP (fun q hq => List.mem_append_right _ hq), fun U hU hW => ⟨rfl, by rw [hU]; exact hPc, va_K.moved hW.alike hKc⟩⟩ rfl rfl hl.1 rfl (lv_room (Nat.le_of_ble_eq_true rfl)) d_SG_addChosen_60 ⟨(by show (acl (xs.length + x1.length) - acl xs.length) ≤ (acl (min 73 (xs.length + (evS (dj, ss) x).length)) - acl xs.length); omega), (by show (asl (xs.length + x1.length) - asl xs.length) ≤ (asl (min 73 (xs.length + (evS (dj, ss) x).length)) - asl xs.length); omega)⟩) (fun r26 hw27 => ?_)
              replace hw27 : r26 = nI ks.length := hw27
              clear hPc hKc
              obtain rfl := hw27
              refine lv_icmp_ge (tgt := 93) hx hb d_SG_addChosen_63 rfl (fun h4 => ?_) (fun h4 => ?_)
              · have h4 : ks.length ≤ j := (nI_leI (by omega) (by omega)).mp h4
                rw [List.take_of_length_le (by rw [kidsL_len]; omega)] at hi6
                refine lv_iconst (v := 1) hx hb d_SG_addChosen_93 (by decide) ?_
                have hP9 := zz_pickP (pre := []) (fz := (lz1 ++ fz)) (wc := []) hP [] rfl
                have hD9 := zz_pickD (pre := []) (fz := (lz1 ++ fz)) (wc := []) hD [] (by decide) rfl
                have hK9 := hK.sub (tys' := [(cB, .byte), (cO, .object "java/lang/Object")]) [0, 1] rfl
                rw [hQ]
                refine W.widen (k := (acl (min 73 (xs.length + (evS (dj, ss) x).length)) - acl xs.length)) (n := (asl (min 73 (xs.length + (evS (dj, ss) x).length)) - asl xs.length)) ((by show (acl (xs.length + x1.length) - acl xs.length) ≤ (acl (min 73 (xs.length + (evS (dj, ss) x).length)) - acl xs.length); omega)) ((by show (asl (xs.length + x1.length) - asl xs.length) ≤ (asl (min 73 (xs.length + (evS (dj, ss) x).length)) - asl xs.length); omega)) ?_
                exact W.zret (v := 1) hx hb hr (by decide) (fun t ht hW => ⟨⟨1, (lz1, x1), rfl, Or.inl ⟨rfl, hiL, by rw [hEv]; exact hi6, by omega⟩, ⟨by rw [ht]; exact hP9, va_K.moved hW.alike hK9, hD9⟩⟩, hS.F ht⟩) hS.2.2 d_SG_addChosen_94
              · have h4 : j < ks.length := Nat.not_le.mp (fun h => h4 ((nI_leI (by omega) (by omega)).mpr h))
                have hjk : j < (ksR x.2).length := by omega
                have hvt := hvl j h4
                obtain ⟨d1, hd1⟩ := hvt.succ
                have hvt1 : VT cB cO em aK (d1 + 1) fz (ks.getD j 0) (ns.getD j []) (kidL x j).2 := hd1 ▸ hvt
                obtain ⟨kd0, tx0, nu0, nm0, pa0, dp0, cn0, hc0, hn0⟩ := hvt.cellN
                have hkm := kid_fm (dj := dj) (ss := ss) hjk
                have hkf2 := kid_fle (dj := dj) (ss := ss) (x := x) (j + 1)
                rw [hkm, List.length_append] at hkf2
                have hmm := ac_mm (m := (xs ++ x1).length + (evS (dj, ss) (kidL x j)).length) (n := xs.length + (evS (dj, ss) x).length) (by omega)
                have hu1 := ac_min (k := 0) (m := (xs ++ x1).length) (n := (xs ++ x1).length + (evS (dj, ss) (kidL x j)).length) (by omega) (by omega)
                have hax0 : acl (xs.length + x1.length) = acl (xs ++ x1).length := by rw [hlx]
                have hay0 : asl (xs.length + x1.length) = asl (xs ++ x1).length := by rw [hlx]
                refine lv_aload_n hx hb d_SG_addChosen_66 rfl (lv_at hl 3 rfl) ?_
                refine lv_aload_n hx hb d_SG_addChosen_67 rfl (lv_at hl 2 rfl) ?_
                obtain ⟨qz28, hz28⟩ := List.getElem?_of_mem (List.mem_append_right [] (hgr1 _ hc))
                refine va_get (D := (dC, dI)) (ci := 3) (v := .ref pa) (C := R_VA) (T := T_VA) (N := 7) hx hb htb in_VA hown hK hP qz28 hz28 rfl 4 (by decide) (htb _ m_396) (fun _ h9 => h9) rfl d_SG_addChosen_68 ?_
                refine lv_iload_n hx hb d_SG_addChosen_71 rfl (lv_at hl 0 rfl) ?_
                have hPc : va_P (dC, dI) vwCl ([] ++ (lz1 ++ fz)) _ := zz_tlP (pre := []) (tl := (lz1 ++ fz)) hP
                have hKc := hK.sub (tys' := [(cO, .object "java/lang/Object")]) [1] rfl
                refine va_csq (W.runV (As := [.int (nI j)]) (rest := [.ref g]) ⟨hx, hb, hml, hown, htb⟩ (z_AL_get l dC dI pa ks cO em j (lz1 ++ fz) hkl9 h4) (cwV 1 htb (g_V (fun _ h => h) m_490 m_1004 m_488 m_489 m_8) rfl rfl rfl (by decide +kernel) ⟨(by show 3 ≤ (90 + 4 * d); omega), (by show 64 ≤ (2700 + 60 * d); omega)⟩) ⟨fun a U g mk q => by obtain ⟨q0, qP, qK⟩ := q; exact ⟨q0, qP, va_K.moved (u := U) (U := U.calling g mk a) (Vm.Alike.refl U.vm) qK⟩, (hkl9).recv hK hP (fun q hq => List.mem_append_right _ hq), fun U hU hW => ⟨rfl, by rw [hU]; exact hPc, va_K.moved hW.alike hKc⟩⟩ rfl rfl hl.1 rfl (lv_room (Nat.le_of_ble_eq_true rfl)) d_SG_addChosen_72 ⟨(by show (acl (xs.length + x1.length) - acl xs.length) ≤ (acl (min 73 (xs.length + (evS (dj, ss) x).length)) - acl xs.length); omega), (by show (asl (xs.length + x1.length) - asl xs.length) ≤ (asl (min 73 (xs.length + (evS (dj, ss) x).length)) - asl xs.length); omega)⟩) (fun r29 hw30 => ?_)
                replace hw30 : r29 = some (ks.getD j 0) := hw30
                clear hPc hKc
                obtain rfl := hw30
                refine W.eq (g2 := F0 m 75 ls [.ref (ks.getD j 0), .ref g]) rfl ?_
                refine va_castY (C := "PatchStore$Value") hx hb hown (htb _ m_1005) (nw_14 hE) (zz_recv hK hP (ci := 3) rfl (List.mem_append_right _ (hgr1 _ hc0))) d_SG_addChosen_75 ?_
                refine lv_aload_n hx hb d_SG_addChosen_78 rfl (lv_at hl 1 rfl) ?_
                have hPc := zz_pickP (pre := []) (fz := (lz1 ++ fz)) (wc := []) hP [] rfl
                have hDc := zz_pickD (pre := []) (fz := (lz1 ++ fz)) (wc := []) hD [] (by decide) rfl
                have hFc := zz_free (pre := []) (fz := (lz1 ++ fz)) (wc := []) hD hS hA [] rfl
                have hKc := hK.sub (tys' := [(cB, .byte), (cO, .object "java/lang/Object")]) [0, 1] rfl
                refine va_calli (va_runS (As := [.ref g, .ref (ks.getD j 0), .ref pl]) (rest := []) ⟨hx, hb, hml, hown, htb⟩ ((HR d1 hd1) l dC dI _ g dj ss al sx (ks.getD j 0) (ns.getD j []) (kidL x j) pl (xs ++ x1) (LS ++ (chA ss x ++ ((kidsL x).take j).flatMap (evS (dj, ss)))) cB cO em aK aV lz1 fz hsg hsa hss hvt1 (by omega) (kid_le hv hjk h32) hiL (hls.cat hi6) (by omega)) (va_cwS 3 htb (g_S (fun _ h => h) m_1008 m_1006 m_1007 m_25) rfl rfl rfl (by decide +kernel) ⟨(by show ((90 + 4 * d1) + 1) ≤ (90 + 4 * d); omega), (by show (23 + (2700 + 60 * d1)) ≤ (2700 + 60 * d); omega)⟩) ⟨fun a U g mk q => by obtain ⟨q0, q1, qP, qK, qD, z0⟩ := q; exact ⟨q0, q1, qP, va_K.moved (u := U) (U := U.calling g mk a) (Vm.Alike.refl U.vm) qK, qD, EX.same (U := U) (U' := U.calling g mk a) rfl z0⟩, fun U hU hW => ⟨rfl, by rw [hU], by rw [hU]; exact hPc, va_K.moved hW.alike hKc, hDc.weaken (fun _ _ _ _ => trivial), by rw [hU]; exact EX.warm hW ((hE.kept (fun a h1 h2 => hS.2.1 a h1 h2)).narrow hFc)⟩⟩ rfl rfl hl.1 rfl (lv_room (Nat.le_of_ble_eq_true rfl)) d_SG_addChosen_79 ⟨(by show ((acl (xs.length + x1.length) - acl xs.length) + (acl (min 73 ((xs ++ x1).length + (evS (dj, ss) (kidL x j)).length)) - acl (xs ++ x1).length)) ≤ (acl (min 73 (xs.length + (evS (dj, ss) x).length)) - acl xs.length); omega), (by show ((asl (xs.length + x1.length) - asl xs.length) + (asl (min 73 ((xs ++ x1).length + (evS (dj, ss) (kidL x j)).length)) - asl (xs ++ x1).length)) ≤ (asl (min 73 (xs.length + (evS (dj, ss) x).length)) - asl xs.length); omega)⟩) hS (fun q _ h => hFc q h) hFc (fun r32 u31 t H1 locs ht hvm hw33 hB hz1 hk1 hS => ?_)
                obtain ⟨hP1, hK1, hD1⟩ := hB
                rw [ht] at hP1
                have hK1 := va_K.moved hvm.symm hK1
                obtain ⟨w35, w36⟩ := u31
                replace hw33 : (r32 = 1 ∧ ALc cO em pl ((xs ++ x1) ++ w36) w35 ∧ VLS cB cO em aK fz w36 (evS (dj, ss) (kidL x j)) ∧ (xs ++ x1).length + w36.length ≤ 40) ∨ (r32 = 0 ∧ 40 < (xs ++ x1).length + (evS (dj, ss) (kidL x j)).length) := hw33
                obtain ⟨hP, hD⟩ := zz_join (pre := []) (fz := (lz1 ++ fz)) (wc := []) (wr := []) (w1 := ([] ++ (w35 ++ fz))) hP hD [] [] rfl rfl (by decide) (by decide) hk1 hFc hP1 hD1
                have hK := (hK.sub (tys' := []) [] rfl).app hK1
                generalize H1 = H at hP hS ⊢
                replace hP : va_P (dC, dI) vwCl ([] ++ (w35 ++ fz)) H := hP
                replace hD : va_D A ([] ++ (w35 ++ fz)) := hD
                replace hK : va_K (dC, dI) vwCl [(cB, .byte), (cO, .object "java/lang/Object")] s := hK
                clear hPc hDc hFc hKc hP1 hD1 hK1 hk1 hz1 ht hvm
                rcases hw33 with hw33 | hw33
                · obtain ⟨hr, hal9, hvl9, hln⟩ := hw33
                  subst hr
                  refine lv_if_ne (tgt := 87) hx hb d_SG_addChosen_82 rfl (fun _ => ?_) (fun h9 => absurd h9 (by decide))
                  have hyl := hvl9.1
                  have hX : (x1 ++ w36).length = x1.length + w36.length := List.length_append
                  have hXm : min 73 ((xs ++ x1).length + (evS (dj, ss) (kidL x j)).length) = xs.length + (x1 ++ w36).length := by omega
                  have hax1 : acl (xs.length + (x1 ++ w36).length) = acl (min 73 ((xs ++ x1).length + (evS (dj, ss) (kidL x j)).length)) := by rw [hXm]
                  have hay1 : asl (xs.length + (x1 ++ w36).length) = asl (min 73 ((xs ++ x1).length + (evS (dj, ss) (kidL x j)).length)) := by rw [hXm]
                  refine lv_iinc (k := 0) (v := ((nI j) + Int32.ofInt 1)) hx hb d_SG_addChosen_87 hl rfl rfl (by decide) rfl (fun ls hl => ?_)
                  replace hl : lv_has ls 4 [(3, .int ((nI j) + Int32.ofInt 1)), (2, .ref pl), (1, .ref a), (0, .ref g)] := hl
                  rw [show nI j + Int32.ofInt 1 = nI (j + 1) from nI_1 _] at hl
                  replace hl : lv_has ls 4 [(3, .int (nI (j + 1))), (2, .ref pl), (1, .ref a), (0, .ref g)] := hl
                  refine lv_goto (tgt := 48) hx hb d_SG_addChosen_90 rfl ?_
                  refine W.widen (k := (acl (xs.length + (x1 ++ w36).length) - acl xs.length)) (n := (asl (xs.length + (x1 ++ w36).length) - asl xs.length)) (by omega) (by omega) ?_
                  exact ihr (ks.length - (j + 1)) (by omega) (j + 1) w35 (x1 ++ w36) H locs ls rfl (by omega) (fun h => by rw [h] at hdt; cases hdt) (by rw [← List.append_assoc]; exact hal9) (by rw [hkm, ← List.append_assoc]; exact hi6.cat hvl9) (by omega) (lv_sub hl [0, 1, 2, 3] rfl) (zz_pickP (pre := []) (fz := (w35 ++ fz)) (wc := []) hP [] rfl) (zz_pickD (pre := []) (fz := (w35 ++ fz)) (wc := []) hD [] (by decide) rfl) hS
                · obtain ⟨hr, hln⟩ := hw33
                  subst hr
                  refine lv_if_ne (tgt := 87) hx hb d_SG_addChosen_82 rfl (fun h9 => absurd (rfl) h9) (fun _ => ?_)
                  refine lv_iconst (v := 0) hx hb d_SG_addChosen_85 (by decide) ?_
                  have hP9 := zz_pickP (pre := []) (fz := (w35 ++ fz)) (wc := []) hP [] rfl
                  have hD9 := zz_pickD (pre := []) (fz := (w35 ++ fz)) (wc := []) hD [] (by decide) rfl
                  have hK9 := hK.sub (tys' := [(cB, .byte), (cO, .object "java/lang/Object")]) [0, 1] rfl
                  rw [hQ]
                  refine W.widen (k := (acl (min 73 (xs.length + (evS (dj, ss) x).length)) - acl xs.length)) (n := (asl (min 73 (xs.length + (evS (dj, ss) x).length)) - asl xs.length)) ((by show ((acl (xs.length + x1.length) - acl xs.length) + (acl (min 73 ((xs ++ x1).length + (evS (dj, ss) (kidL x j)).length)) - acl (xs ++ x1).length)) ≤ (acl (min 73 (xs.length + (evS (dj, ss) x).length)) - acl xs.length); omega)) ((by show ((asl (xs.length + x1.length) - asl xs.length) + (asl (min 73 ((xs ++ x1).length + (evS (dj, ss) (kidL x j)).length)) - asl (xs ++ x1).length)) ≤ (asl (min 73 (xs.length + (evS (dj, ss) x).length)) - asl xs.length); omega)) ?_
                  exact W.zret (v := 0) hx hb hr (by decide) (fun t ht hW => ⟨⟨0, (w35, x1), rfl, Or.inr ⟨rfl, by omega⟩, ⟨by rw [ht]; exact hP9, va_K.moved hW.alike hK9, hD9⟩⟩, hS.F ht⟩) hS.2.2 d_SG_addChosen_86
        exact hloopr _ 0 lz1 x1 _ _ ls rfl (Nat.zero_le _) (fun _ => rfl) (hiL) (by rw [List.take_zero, List.flatMap_nil, List.append_nil]; exact hi6) (hx40b) (lv_sub hl [0, 1, 2, 3] rfl) (zz_pickP (pre := []) (fz := (lz1 ++ fz)) (wc := []) hP [] rfl) (zz_pickD (pre := []) (fz := (lz1 ++ fz)) (wc := []) hD [] (by decide) rfl) hS
      · have h1 : i < sx.length := Nat.not_le.mp (fun h => h1 ((nI_leI (by omega) (by omega)).mpr h))
        have hssl := hss.1
        have hsz := hss.2 i h1
        obtain ⟨fs0, hvin0⟩ := hsz.vin
        have hct := chA_take (x := x) (show i < ss.length by omega)
        have hcl := chs_len (s := ss.getD i slA) hk32
        have hcle1 := chA_le (ss := ss) (x := x) (i + 1)
        rw [hct, List.length_append] at hcle1
        have hm1 := ac_min (k := 0) (m := (xs ++ x1).length + (chs (ss.getD i slA) x).length) (n := xs.length + (evS (dj, ss) x).length) (by omega) (by omega)
        have hu1 := ac_up (xs ++ x1).length ((xs ++ x1).length + (chs (ss.getD i slA) x).length) (by omega) (by omega)
        have hax0 : acl (xs.length + x1.length) = acl (xs ++ x1).length := by rw [hlx]
        have hay0 : asl (xs.length + x1.length) = asl (xs ++ x1).length := by rw [hlx]
        refine lv_aload_n hx hb d_SG_addChosen_13 rfl (lv_at hl 3 rfl) ?_
        obtain ⟨qz24, hz24⟩ := List.getElem?_of_mem (List.mem_append_right [] (hgr1 _ hsg))
        refine va_get (D := (dC, dI)) (ci := 9) (v := .ref al) (C := R_SG) (T := T_SG) (N := 2) hx hb htb in_SG hown hK hP qz24 hz24 rfl 1 (by decide) (htb _ m_882) (fun _ h9 => h9) rfl d_SG_addChosen_14 ?_
        refine lv_iload_n hx hb d_SG_addChosen_17 rfl (lv_at hl 0 rfl) ?_
        have hPc : va_P (dC, dI) vwCl ([] ++ (lz1 ++ fz)) _ := zz_tlP (pre := []) (tl := (lz1 ++ fz)) hP
        have hKc := hK.sub (tys' := [(cO, .object "java/lang/Object")]) [1] rfl
        refine va_csq (W.runV (As := [.int (nI i)]) (rest := []) ⟨hx, hb, hml, hown, htb⟩ (z_AL_get l dC dI al sx cO em i (lz1 ++ fz) hsa9 h1) (cwV 1 htb (g_V (fun _ h => h) m_490 m_1004 m_488 m_489 m_8) rfl rfl rfl (by decide +kernel) ⟨(by show 3 ≤ (90 + 4 * d); omega), (by show 64 ≤ (2700 + 60 * d); omega)⟩) ⟨fun a U g mk q => by obtain ⟨q0, qP, qK⟩ := q; exact ⟨q0, qP, va_K.moved (u := U) (U := U.calling g mk a) (Vm.Alike.refl U.vm) qK⟩, (hsa9).recv hK hP (fun q hq => List.mem_append_right _ hq), fun U hU hW => ⟨rfl, by rw [hU]; exact hPc, va_K.moved hW.alike hKc⟩⟩ rfl rfl hl.1 rfl (lv_room (Nat.le_of_ble_eq_true rfl)) d_SG_addChosen_18 ⟨(by show (acl (xs.length + x1.length) - acl xs.length) ≤ (acl (min 73 (xs.length + (evS (dj, ss) x).length)) - acl xs.length); omega), (by show (asl (xs.length + x1.length) - asl xs.length) ≤ (asl (min 73 (xs.length + (evS (dj, ss) x).length)) - asl xs.length); omega)⟩) (fun r25 hw26 => ?_)
        replace hw26 : r25 = some (sx.getD i 0) := hw26
        clear hPc hKc
        obtain rfl := hw26
        refine W.eq (g2 := F0 m 21 ls [.ref (sx.getD i 0)]) rfl ?_
        refine va_castY (C := "PatchStore$Selector") hx hb hown (htb _ m_1009) (nw_17 hE) (zz_recv hK hP (ci := 10) rfl (List.mem_append_right _ (hgr1 _ hvin0))) d_SG_addChosen_21 ?_
        refine lv_aload_n hx hb d_SG_addChosen_24 rfl (lv_at hl 2 rfl) ?_
        refine lv_aload_n hx hb d_SG_addChosen_25 rfl (lv_at hl 1 rfl) ?_
        have hPc := zz_pickP (pre := []) (fz := (lz1 ++ fz)) (wc := []) hP [] rfl
        have hDc := zz_pickD (pre := []) (fz := (lz1 ++ fz)) (wc := []) hD [] (by decide) rfl
        have hFc := zz_free (pre := []) (fz := (lz1 ++ fz)) (wc := []) hD hS hA [] rfl
        have hKc := hK.sub (tys' := [(cB, .byte), (cO, .object "java/lang/Object")]) [0, 1] rfl
        refine va_callv (va_runV (As := [.ref a, .ref pl]) (rest := []) ⟨hx, hb, hml, hown, htb⟩ (k_SE_choose l dC dI _ (sx.getD i 0) (ss.getD i slA) a d nn x pl (xs ++ x1) (LS ++ chA (ss.take i) x) cB cO em aK aV lz1 fz hsz hv hd9 h32 hiL (hls.cat hi6) (by omega)) (cwV 2 htb (g_V (fun _ h => h) m_1013 m_1010 m_1011 m_1012 m_26) rfl rfl rfl (by decide +kernel) ⟨(by show 86 ≤ (90 + 4 * d); omega), (by show 2524 ≤ (2700 + 60 * d); omega)⟩) ⟨fun a U g mk q => by obtain ⟨q0, q1, qP, qK, qD, z0⟩ := q; exact ⟨q0, q1, qP, va_K.moved (u := U) (U := U.calling g mk a) (Vm.Alike.refl U.vm) qK, qD, EX.same (U := U) (U' := U.calling g mk a) rfl z0⟩, (zz_recv hK hP (ci := 10) rfl (List.mem_append_right _ (hgr1 _ hvin0))), fun U hU hW => ⟨rfl, by rw [hU], by rw [hU]; exact hPc, va_K.moved hW.alike hKc, hDc.weaken (fun _ _ _ _ => trivial), by rw [hU]; exact EX.warm hW ((hE.kept (fun a h1 h2 => hS.2.1 a h1 h2)).narrow hFc)⟩⟩ rfl rfl hl.1 rfl (lv_room (Nat.le_of_ble_eq_true rfl)) d_SG_addChosen_26 ⟨(by show ((acl (xs.length + x1.length) - acl xs.length) + (acl ((xs ++ x1).length + (chs (ss.getD i slA) x).length) - acl (xs ++ x1).length)) ≤ (acl (min 73 (xs.length + (evS (dj, ss) x).length)) - acl xs.length); omega), (by show ((asl (xs.length + x1.length) - asl xs.length) + (asl ((xs ++ x1).length + (chs (ss.getD i slA) x).length) - asl (xs ++ x1).length)) ≤ (asl (min 73 (xs.length + (evS (dj, ss) x).length)) - asl xs.length); omega)⟩) hS (fun q _ h => hFc q h) hFc (fun u27 t H1 locs ht hvm hw29 hB hz1 hk1 hS => ?_)
        obtain ⟨hP1, hK1, hD1⟩ := hB
        rw [ht] at hP1
        have hK1 := va_K.moved hvm.symm hK1
        obtain ⟨w31, w32⟩ := u27
        replace hw29 : ALc cO em pl ((xs ++ x1) ++ w32) w31 ∧ VLS cB cO em aK fz w32 (chs (ss.getD i slA) x) := hw29
        obtain ⟨hP, hD⟩ := zz_join (pre := []) (fz := (lz1 ++ fz)) (wc := []) (wr := []) (w1 := ([] ++ (w31 ++ fz))) hP hD [] [] rfl rfl (by decide) (by decide) hk1 hFc hP1 hD1
        have hK := (hK.sub (tys' := []) [] rfl).app hK1
        generalize H1 = H at hP hS ⊢
        replace hP : va_P (dC, dI) vwCl ([] ++ (w31 ++ fz)) H := hP
        replace hD : va_D A ([] ++ (w31 ++ fz)) := hD
        replace hK : va_K (dC, dI) vwCl [(cB, .byte), (cO, .object "java/lang/Object")] s := hK
        clear hPc hDc hFc hKc hP1 hD1 hK1 hk1 hz1 ht hvm
        obtain ⟨hal9, hvl9⟩ := hw29
        have hal9 : ALc cO em pl (xs ++ (x1 ++ w32)) w31 := by rw [← List.append_assoc]; exact hal9
        have hv9 : VLS cB cO em aK fz (x1 ++ w32) (chA (ss.take (i + 1)) x) := by rw [hct]; exact hi6.cat hvl9
        have hyl := hvl9.1
        have hX : (x1 ++ w32).length = x1.length + (chs (ss.getD i slA) x).length := by rw [List.length_append]; omega
        have hXX : (xs ++ (x1 ++ w32)).length = xs.length + (x1 ++ w32).length := List.length_append
        have hax1 : acl (xs.length + (x1 ++ w32).length) = acl ((xs ++ x1).length + (chs (ss.getD i slA) x).length) := by rw [hX, hlx, Nat.add_assoc]
        have hay1 : asl (xs.length + (x1 ++ w32).length) = asl ((xs ++ x1).length + (chs (ss.getD i slA) x).length) := by rw [hX, hlx, Nat.add_assoc]
        have halz : ALz cO em (w31 ++ fz) pl (xs ++ (x1 ++ w32)) := hal9.frozen.mono (fun q hq => List.mem_append_left _ hq)
        refine lv_aload_n hx hb d_SG_addChosen_29 rfl (lv_at hl 1 rfl) ?_
        have hPc : va_P (dC, dI) vwCl ([] ++ (w31 ++ fz)) _ := zz_tlP (pre := []) (tl := (w31 ++ fz)) hP
        have hKc := hK.sub (tys' := []) [] rfl
        refine vp_callSi (W.runV (As := []) (rest := []) ⟨hx, hb, hml, hown, htb⟩ (z_AL_size l dC dI pl (xs ++ (x1 ++ w32)) cO em (w31 ++ fz) halz) (cwV 0 htb (g_V (fun _ h => h) m_486 m_1003 m_484 m_485 m_8) rfl rfl rfl (by decide +kernel) ⟨(by show 1 ≤ (90 + 4 * d); omega), (by show 20 ≤ (2700 + 60 * d); omega)⟩) ⟨fun a U g mk q => by obtain ⟨q0, qP, qK⟩ := q; exact ⟨q0, qP, va_K.moved (u := U) (U := U.calling g mk a) (Vm.Alike.refl U.vm) qK⟩, (halz).recv hK hP (fun q hq => List.mem_append_right _ hq), fun U hU hW => ⟨rfl, by rw [hU]; exact hPc, va_K.moved hW.alike hKc⟩⟩ rfl rfl hl.1 rfl (lv_room (Nat.le_of_ble_eq_true rfl)) d_SG_addChosen_30 ⟨(by show ((acl (xs.length + x1.length) - acl xs.length) + (acl ((xs ++ x1).length + (chs (ss.getD i slA) x).length) - acl (xs ++ x1).length)) ≤ (acl (min 73 (xs.length + (evS (dj, ss) x).length)) - acl xs.length); omega), (by show ((asl (xs.length + x1.length) - asl xs.length) + (asl ((xs ++ x1).length + (chs (ss.getD i slA) x).length) - asl (xs ++ x1).length)) ≤ (asl (min 73 (xs.length + (evS (dj, ss) x).length)) - asl xs.length); omega)⟩) (fun r33 hw34 => ?_)
        replace hw34 : r33 = nI (xs ++ (x1 ++ w32)).length := hw34
        clear hPc hKc
        obtain rfl := hw34
        refine lv_bipush (v := 40) hx hb d_SG_addChosen_33 (by decide) ?_
        refine lv_icmp_le (tgt := 40) hx hb d_SG_addChosen_35 rfl (fun h2 => ?_) (fun h2 => ?_)
        · have h2 : (xs ++ (x1 ++ w32)).length ≤ 40 := (nI_leI (b := 40) (by omega) (by decide)).mp h2
          refine lv_iinc (k := 0) (v := ((nI i) + Int32.ofInt 1)) hx hb d_SG_addChosen_40 hl rfl rfl (by decide) rfl (fun ls hl => ?_)
          replace hl : lv_has ls 4 [(3, .int ((nI i) + Int32.ofInt 1)), (2, .ref pl), (1, .ref a), (0, .ref g)] := hl
          rw [show nI i + Int32.ofInt 1 = nI (i + 1) from nI_1 _] at hl
          replace hl : lv_has ls 4 [(3, .int (nI (i + 1))), (2, .ref pl), (1, .ref a), (0, .ref g)] := hl
          refine lv_goto (tgt := 2) hx hb d_SG_addChosen_43 rfl ?_
          refine W.widen (k := (acl (xs.length + (x1 ++ w32).length) - acl xs.length)) (n := (asl (xs.length + (x1 ++ w32).length) - asl xs.length)) (by omega) (by omega) ?_
          exact ihp (sx.length - (i + 1)) (by omega) (i + 1) w31 (x1 ++ w32) H locs ls rfl (by omega) (hal9) (hv9) (by omega) (lv_sub hl [0, 1, 2, 3] rfl) (zz_pickP (pre := []) (fz := (w31 ++ fz)) (wc := []) hP [] rfl) (zz_pickD (pre := []) (fz := (w31 ++ fz)) (wc := []) hD [] (by decide) rfl) hS
        · have h2 : ¬ (xs ++ (x1 ++ w32)).length ≤ 40 := fun h => h2 ((nI_leI (b := 40) (by omega) (by decide)).mpr h)
          refine lv_iconst (v := 0) hx hb d_SG_addChosen_38 (by decide) ?_
          have hP9 := zz_pickP (pre := []) (fz := (w31 ++ fz)) (wc := []) hP [] rfl
          have hD9 := zz_pickD (pre := []) (fz := (w31 ++ fz)) (wc := []) hD [] (by decide) rfl
          have hK9 := hK.sub (tys' := [(cB, .byte), (cO, .object "java/lang/Object")]) [0, 1] rfl
          rw [hQ]
          refine W.widen (k := (acl (min 73 (xs.length + (evS (dj, ss) x).length)) - acl xs.length)) (n := (asl (min 73 (xs.length + (evS (dj, ss) x).length)) - asl xs.length)) ((by show ((acl (xs.length + x1.length) - acl xs.length) + (acl ((xs ++ x1).length + (chs (ss.getD i slA) x).length) - acl (xs ++ x1).length)) ≤ (acl (min 73 (xs.length + (evS (dj, ss) x).length)) - acl xs.length); omega)) ((by show ((asl (xs.length + x1.length) - asl xs.length) + (asl ((xs ++ x1).length + (chs (ss.getD i slA) x).length) - asl (xs ++ x1).length)) ≤ (asl (min 73 (xs.length + (evS (dj, ss) x).length)) - asl xs.length); omega)) ?_
          exact W.zret (v := 0) hx hb hr (by decide) (fun t ht hW => ⟨⟨0, (w31, (x1 ++ w32)), rfl, Or.inr ⟨rfl, by omega⟩, ⟨by rw [ht]; exact hP9, va_K.moved hW.alike hK9, hD9⟩⟩, hS.F ht⟩) hS.2.2 d_SG_addChosen_39
  refine W.widen (k := (acl (xs.length + ([] : List Nat).length) - acl xs.length)) (n := (asl (xs.length + ([] : List Nat).length) - asl xs.length)) (by omega) (by omega) ?_
  exact hloopp _ 0 lz ([] : List Nat) _ _ ls rfl (Nat.zero_le _) (by rw [List.append_nil]; exact hal) (VLS.nil) (by simpa using hx40) (lv_sub hl [0, 3, 2, 1] rfl) (zz_pickP (pre := []) (fz := (lz ++ fz)) (wc := []) hP [] rfl) (zz_pickD (pre := []) (fz := (lz ++ fz)) (wc := []) hD [] (by decide) rfl) hS
theorem all_SG_addChosen : ∀ d, C_SG_addChosen d
  | 0 => fun l dC dI sz g dj ss al sx a nn x pl xs LS cB cO em aK aV lz fz hsg hsa hss hv hd9 h32 hal hls hx40 => k_SG_addChosen l dC dI sz 0 g dj ss al sx a nn x pl xs LS cB cO em aK aV lz fz hsg hsa hss hv hd9 h32 hal hls hx40 (fun d1 h => absurd h (by omega))
  | d + 1 => fun l dC dI sz g dj ss al sx a nn x pl xs LS cB cO em aK aV lz fz hsg hsa hss hv hd9 h32 hal hls hx40 => k_SG_addChosen l dC dI sz (d + 1) g dj ss al sx a nn x pl xs LS cB cO em aK aV lz fz hsg hsa hss hv hd9 h32 hal hls hx40 (fun d1 h => (show d = d1 by omega) ▸ all_SG_addChosen d)
set_option maxHeartbeats 1000000 in
set_option maxRecDepth 100000 in
/-- nextList(list) -/
theorem k_SG_nextList (l : Launch) (dC : Nat → ClassId) (dI : Nat → Nat → Nat) (sz : Nat) (g : Nat) (dj : Bool) (ss : List Sel) (al : Nat) (sx : List Nat) (li : Nat) (x0 : List Nat) (LS0 : List Plc) (cB : ClassId) (cO : ClassId) (em : Nat) (aK : Nat → Nat) (aV : Nat → Nat) (fz : va_W) (hsg : (g, Sum.inr (9, [Value.int (bI dj), Value.ref al])) ∈ fz) (hsa : ALz cO em fz al sx) (hss : SLs cB cO em aK fz ss sx) (hli : ALz cO em fz li x0) (hl0 : VLS cB cO em aK fz x0 LS0) (hx0 : x0.length ≤ 40) : Met l y_SG_nextList ws_SG_nextList ({ frames := 150, cells := 7, slots := 205, locals := 3600 }) (va_Pc [.ref g, .ref li] (fun U => U.heap.size = sz ∧ va_P (dC, dI) vwCl ([] ++ fz) U.heap ∧ va_K (dC, dI) vwCl [(cB, .byte), (cO, .object "java/lang/Object")] U ∧ va_D (fun _ => True) ([] ++ fz) ∧ EX em aK aV (va_A ([] ++ fz) sz) U U.heap)) (va_Qq (fun (r : Option Nat) (u : va_W) => (r = none ∧ 40 < (evL (dj, ss) LS0).length) ∨ ∃ y8 x8, r = some y8 ∧ ALz cO em u y8 x8 ∧ VLS cB cO em aK fz x8 (evL (dj, ss) LS0) ∧ x8.length ≤ 40) (fun u t => va_P (dC, dI) vwCl ([] ++ (u ++ fz)) t.heap ∧ va_K (dC, dI) vwCl [(cB, .byte), (cO, .object "java/lang/Object")] t ∧ va_D (va_A ([] ++ fz) sz) ([] ++ (u ++ fz))) (va_A ([] ++ fz) sz)) 7 205 (va_A ([] ++ fz) sz) := by
  refine Met.ofW (cc := c_SG_nextList) (maxL := 4) (ret := (some (.object "java/util/ArrayList"))) (by decide) rfl ?_
  intro p e s m args below meth c s₁ B hml hv
  obtain ⟨hargs, hsz, hP, hK, hD0, hE⟩ := hv
  rw [show entryFrame m args 4 = entryFrame m ([.ref g, .ref li]).toArray 4 by rw [hargs]]
  have hx := B.exec
  have hb := B.bytes
  have hr := B.returns
  have hts := atoms_spec (ws := ws_SG_nextList) B.pre
  have htb := fun w (h : w ∈ TBL) => hts w (List.mem_cons_of_mem _ h)
  have hown : s.vm.findClass R_SG = some m.cls := findClass_of_methodNamed B.named
  have hlocks := B.notSynchronized
  subst hsz
  have hD := hD0.self (sz := s.heap.size)
  generalize hAe : va_A ([] ++ fz) s.heap.size = A at hD hE ⊢
  have hA : ∀ q : Nat, s.heap.size ≤ q → A q := fun q h => by rw [← hAe]; exact Or.inr h
  have hS : va_S A s.heap s.heap [] := va_S.rf
  have hP : va_P (dC, dI) vwCl ([] ++ fz) s.heap := hP
  have hl := lv_entry ([.ref g, .ref li]) (n := 4) (Nat.le_of_ble_eq_true rfl)
  rw [lg_entry_eq]
  generalize (lg_sl ([.ref g, .ref li]) ++ List.replicate (4 - (lg_sl ([.ref g, .ref li])).length) Slot.unset).toArray = ls at hl ⊢
  replace hl : lv_has ls 4 [(0, .ref g), (1, .ref li)] := hl
  refine zz_nQ (fun Q hQ => ?_)
  refine va_new (ci := 14) (fs := [.null, .int 0, .int 0]) (C := R_AL) (T := T_AL) (N := 3) hx hb htb in_AL ty_AL ty_AL_ok hown (htb _ m_878) (htb _ m_74) (htb _ m_8) hK hP hD hS hA rfl (fun j hj => by rcases (show j = 0 ∨ j = 1 ∨ j = 2 by omega) with rfl | rfl | rfl <;> rfl) ((by show 1 ≤ 7; omega)) ((by show 3 ≤ 205; omega)) d_SG_nextList_0 (fun pl H hP hD hS => ?_)
  have hP := zz_rotP (pre := []) (fz := fz) hP
  have hD := zz_rotD (pre := []) (fz := fz) hD
  replace hP : va_P (dC, dI) vwCl ([(pl, .inr (14, [.null, .int 0, .int 0]))] ++ fz) H := hP
  replace hD : va_D A ([(pl, .inr (14, [.null, .int 0, .int 0]))] ++ fz) := hD
  refine W.widen (k := 1) (n := 3) (Nat.le_of_ble_eq_true rfl) (Nat.le_of_ble_eq_true rfl) ?_
  refine lv_dup hx hb d_SG_nextList_3 rfl ?_
  have hPc := hP.sub (ws' := [(pl, .inr (14, [.null, .int 0, .int 0]))]) [0] rfl
  have hDc := hD.sub (ws' := [(pl, .inr (14, [.null, .int 0, .int 0]))]) [0] (by decide) rfl
  have hFc := va_free (wc := [(pl, .inr (14, [.null, .int 0, .int 0]))]) hD hS hA [0] rfl
  have hKc := hK.sub (tys' := []) [] rfl
  refine va_callv (va_runI (As := []) (rest := [.ref pl]) ⟨hx, hb, hml, hown, htb⟩ (k_AL_init l dC dI _ pl em aK aV ) (cwI 0 htb (g_all (fun _ h => h) m_77) rfl rfl rfl (htb _ m_8) (htb _ m_879) (htb _ m_76) rfl (by decide +kernel) ⟨Nat.le_of_ble_eq_true rfl, Nat.le_of_ble_eq_true rfl⟩) ⟨fun a U g mk q => by obtain ⟨q0, q1, qP, qK, qD, z0⟩ := q; exact ⟨q0, q1, qP, va_K.moved (u := U) (U := U.calling g mk a) (Vm.Alike.refl U.vm) qK, qD, EX.same (U := U) (U' := U.calling g mk a) rfl z0⟩, fun U hU hW => ⟨rfl, by rw [hU], by rw [hU]; exact hPc, va_K.moved hW.alike hKc, hDc.weaken (fun _ _ _ _ => trivial), by rw [hU]; exact EX.warm hW ((hE.kept (fun a h1 h2 => hS.2.1 a h1 h2)).narrow hFc)⟩⟩ rfl rfl hl.1 rfl (lv_room (Nat.le_of_ble_eq_true rfl)) d_SG_nextList_4 ⟨(by show 1 ≤ 7; omega), (by show 3 ≤ 205; omega)⟩) hS (fun q _ h => hFc q h) hFc (fun u21 t H1 locs ht hvm hw23 hB hz1 hk1 hS => ?_)
  obtain ⟨hP1, hK1, hD1⟩ := hB
  rw [ht] at hP1
  have hK1 := va_K.moved hvm.symm hK1
  replace hw23 : True := hw23
  obtain ⟨hP, hD⟩ := zz_joinN (pre := [(pl, .inr (14, [.null, .int 0, .int 0]))]) (fz := fz) (wc := [(pl, .inr (14, [.null, .int 0, .int 0]))]) (wr := []) (w1 := [(pl, .inr (14, [.ref em, .int 0, .int 0]))]) hP hD [0] [] rfl rfl (by decide) (by decide) hk1 hFc hP1 hD1
  have hK := (hK.sub (tys' := [(cB, .byte), (cO, .object "java/lang/Object")]) [0, 1] rfl).app hK1
  generalize H1 = H at hP hS ⊢
  replace hP : va_P (dC, dI) vwCl ([(pl, .inr (14, [.ref em, .int 0, .int 0]))] ++ fz) H := hP
  replace hD : va_D A ([(pl, .inr (14, [.ref em, .int 0, .int 0]))] ++ fz) := hD
  replace hK : va_K (dC, dI) vwCl [(cB, .byte), (cO, .object "java/lang/Object")] s := hK
  clear hPc hDc hFc hKc hP1 hD1 hK1 hk1 hz1 ht hvm
  refine lv_astore_n hx hb d_SG_nextList_7 rfl hl (by decide) rfl (fun ls hl => ?_)
  replace hl : lv_has ls 4 [(2, .ref pl), (0, .ref g), (1, .ref li)] := hl
  refine lv_iconst (v := 0) hx hb d_SG_nextList_8 (by decide) ?_
  refine lv_istore_n hx hb d_SG_nextList_9 rfl hl (by decide) rfl (fun ls hl => ?_)
  replace hl : lv_has ls 4 [(3, .int 0), (2, .ref pl), (0, .ref g), (1, .ref li)] := hl
  have hP := zz_pickP (pre := [(pl, .inr (14, [.ref em, .int 0, .int 0]))]) (fz := fz) (wc := [(pl, .inr (14, [.ref em, .int 0, .int 0]))]) hP [0] rfl
  have hD := zz_pickD (pre := [(pl, .inr (14, [.ref em, .int 0, .int 0]))]) (fz := fz) (wc := [(pl, .inr (14, [.ref em, .int 0, .int 0]))]) hD [0] (by decide) rfl
  have hP : va_P (dC, dI) vwCl ([] ++ ([(pl, .inr (14, [.ref em, .int 0, .int 0]))] ++ fz)) _ := hP
  have hD : va_D A ([] ++ ([(pl, .inr (14, [.ref em, .int 0, .int 0]))] ++ fz)) := hD
  replace hl : lv_has ls 4 [(3, .int (nI 0)), (2, .ref pl), (0, .ref g), (1, .ref li)] := hl
  have hx160 := hli.1
  have hc73 := ac_73
  have hloop : ∀ (k9 : Nat) (i : Nat) (lz1 : va_W) (x1 : List Nat) (H : Heap) (locs : List Loc) (ls : Array Slot), x0.length - i = k9 → (i ≤ x0.length) → (ALc cO em pl x1 lz1) → (VLS cB cO em aK fz x1 (evL (dj, ss) (LS0.take i))) → (x1.length ≤ 40) → lv_has ls 4 [(3, .int (nI i)), (2, .ref pl), (1, .ref li), (0, .ref g)] → va_P (dC, dI) vwCl ([] ++ (lz1 ++ fz)) H → va_D A ([] ++ (lz1 ++ fz)) → va_S A s.heap H locs → W p l e (headSpec ws_SG_nextList ({ frames := 150, cells := 7, slots := 205, locals := 3600 })).room s m args below meth c H locs (1 + acl x1.length) (3 + asl x1.length) Q (F0 m 10 ls []) := by
    intro k9
    induction k9 using Nat.strongRecOn with
    | ind k9 ih =>
      intro i lz1 x1 H locs ls hk9 hi0 hiL hi6 hi40 hl hP hD hS
      have hgr1 : ∀ q ∈ fz, q ∈ (lz1 ++ fz) := fun q hq => List.mem_append_right _ hq
      have hli9 := hli.mono hgr1
      have hx1 := hi6.1
      have hu73 := ac_up x1.length 73 (by omega) (by omega)
      refine lv_iload_n hx hb d_SG_nextList_10 rfl (lv_at hl 0 rfl) ?_
      refine lv_aload_n hx hb d_SG_nextList_11 rfl (lv_at hl 2 rfl) ?_
      have hPc : va_P (dC, dI) vwCl ([] ++ (lz1 ++ fz)) _ := zz_tlP (pre := []) (tl := (lz1 ++ fz)) hP
      have hKc := hK.sub (tys' := []) [] rfl
      refine vp_callSi (W.runV (As := []) (rest := [.int (nI i)]) ⟨hx, hb, hml, hown, htb⟩ (z_AL_size l dC dI li x0 cO em (lz1 ++ fz) hli9) (cwV 0 htb (g_V (fun _ h => h) m_486 m_1003 m_484 m_485 m_8) rfl rfl rfl (by decide +kernel) ⟨Nat.le_of_ble_eq_true rfl, Nat.le_of_ble_eq_true rfl⟩) ⟨fun a U g mk q => by obtain ⟨q0, qP, qK⟩ := q; exact ⟨q0, qP, va_K.moved (u := U) (U := U.calling g mk a) (Vm.Alike.refl U.vm) qK⟩, (hli9).recv hK hP (fun q hq => List.mem_append_right _ hq), fun U hU hW => ⟨rfl, by rw [hU]; exact hPc, va_K.moved hW.alike hKc⟩⟩ rfl rfl hl.1 rfl (lv_room (Nat.le_of_ble_eq_true rfl)) d_SG_nextList_12 ⟨(by show (1 + acl x1.length) ≤ 7; omega), (by show (3 + asl x1.length) ≤ 205; omega)⟩) (fun r25 hw26 => ?_)
      replace hw26 : r25 = nI x0.length := hw26
      clear hPc hKc
      obtain rfl := hw26
      refine lv_icmp_ge (tgt := 42) hx hb d_SG_nextList_15 rfl (fun h1 => ?_) (fun h1 => ?_)
      · have h1 : x0.length ≤ i := (nI_leI (by omega) (by omega)).mp h1
        rw [List.take_of_length_le (by have := hl0.1; omega)] at hi6
        refine lv_aload_n hx hb d_SG_nextList_42 rfl (lv_at hl 1 rfl) ?_
        have hP9 := zz_pickP (pre := []) (fz := (lz1 ++ fz)) (wc := []) hP [] rfl
        have hD9 := zz_pickD (pre := []) (fz := (lz1 ++ fz)) (wc := []) hD [] (by decide) rfl
        have hK9 := hK.sub (tys' := [(cB, .byte), (cO, .object "java/lang/Object")]) [0, 1] rfl
        rw [hQ]
        refine W.widen (k := 7) (n := 205) ((by show (1 + acl x1.length) ≤ 7; omega)) ((by show (3 + asl x1.length) ≤ 205; omega)) ?_
        exact W.aret (v := .ref pl) hx hb hr (Or.inl ⟨_, rfl⟩) (Or.inr ⟨_, rfl⟩) (fun t ht hW => ⟨⟨(some pl), lz1, rfl, Or.inr ⟨pl, x1, rfl, hiL.frozen, hi6, hi40⟩, ⟨by rw [ht]; exact hP9, va_K.moved hW.alike hK9, hD9⟩⟩, hS.F ht⟩) hS.2.2 d_SG_nextList_43
      · have h1 : i < x0.length := Nat.not_le.mp (fun h => h1 ((nI_leI (by omega) (by omega)).mpr h))
        have hl01 := hl0.1
        obtain ⟨dy, ny, hdy, hlen, hvy⟩ := hl0.2 i h1
        obtain ⟨dd, hdd⟩ := hvy.succ
        rw [hdd] at hvy
        obtain ⟨kd0, tx0, nu0, nm0, pa0, dp0, cn0, hc0, hn0⟩ := hvy.cellN
        have hEt := evL_take (sg := (dj, ss)) (ls := LS0) (k := i) (by omega)
        have hEl := evL_le (sg := (dj, ss)) (ls := LS0) (i + 1)
        rw [hEt, List.length_append] at hEl
        generalize LS0.getD i (0, []) = x at hlen hvy hEt hEl
        have hm1 := ac_up (min 73 (x1.length + (evS (dj, ss) x).length)) 73 (by omega) (by omega)
        have hm2 := ac_min (k := 0) (m := x1.length) (n := x1.length + (evS (dj, ss) x).length) (by omega) (by omega)
        refine lv_aload_n hx hb d_SG_nextList_18 rfl (lv_at hl 3 rfl) ?_
        refine lv_aload_n hx hb d_SG_nextList_19 rfl (lv_at hl 2 rfl) ?_
        refine lv_iload_n hx hb d_SG_nextList_20 rfl (lv_at hl 0 rfl) ?_
        have hPc : va_P (dC, dI) vwCl ([] ++ (lz1 ++ fz)) _ := zz_tlP (pre := []) (tl := (lz1 ++ fz)) hP
        have hKc := hK.sub (tys' := [(cO, .object "java/lang/Object")]) [1] rfl
        refine va_csq (W.runV (As := [.int (nI i)]) (rest := [.ref g]) ⟨hx, hb, hml, hown, htb⟩ (z_AL_get l dC dI li x0 cO em i (lz1 ++ fz) hli9 h1) (cwV 1 htb (g_V (fun _ h => h) m_490 m_1004 m_488 m_489 m_8) rfl rfl rfl (by decide +kernel) ⟨Nat.le_of_ble_eq_true rfl, Nat.le_of_ble_eq_true rfl⟩) ⟨fun a U g mk q => by obtain ⟨q0, qP, qK⟩ := q; exact ⟨q0, qP, va_K.moved (u := U) (U := U.calling g mk a) (Vm.Alike.refl U.vm) qK⟩, (hli9).recv hK hP (fun q hq => List.mem_append_right _ hq), fun U hU hW => ⟨rfl, by rw [hU]; exact hPc, va_K.moved hW.alike hKc⟩⟩ rfl rfl hl.1 rfl (lv_room (Nat.le_of_ble_eq_true rfl)) d_SG_nextList_21 ⟨(by show (1 + acl x1.length) ≤ 7; omega), (by show (3 + asl x1.length) ≤ 205; omega)⟩) (fun r27 hw28 => ?_)
        replace hw28 : r27 = some (x0.getD i 0) := hw28
        clear hPc hKc
        obtain rfl := hw28
        refine W.eq (g2 := F0 m 24 ls [.ref (x0.getD i 0), .ref g]) rfl ?_
        refine va_castY (C := "PatchStore$Value") hx hb hown (htb _ m_1005) (nw_14 hE) (zz_recv hK hP (ci := 3) rfl (List.mem_append_right _ (hgr1 _ hc0))) d_SG_nextList_24 ?_
        refine lv_aload_n hx hb d_SG_nextList_27 rfl (lv_at hl 1 rfl) ?_
        have hPc := zz_pickP (pre := []) (fz := (lz1 ++ fz)) (wc := []) hP [] rfl
        have hDc := zz_pickD (pre := []) (fz := (lz1 ++ fz)) (wc := []) hD [] (by decide) rfl
        have hFc := zz_free (pre := []) (fz := (lz1 ++ fz)) (wc := []) hD hS hA [] rfl
        have hKc := hK.sub (tys' := [(cB, .byte), (cO, .object "java/lang/Object")]) [0, 1] rfl
        refine va_calli (va_runS (As := [.ref g, .ref (x0.getD i 0), .ref pl]) (rest := []) ⟨hx, hb, hml, hown, htb⟩ ((all_SG_addChosen dd) l dC dI _ g dj ss al sx (x0.getD i 0) ny x pl x1 (evL (dj, ss) (LS0.take i)) cB cO em aK aV lz1 fz hsg hsa hss hvy (by omega) hlen hiL hi6 hi40) (va_cwS 3 htb (g_S (fun _ h => h) m_1008 m_1006 m_1007 m_25) rfl rfl rfl (by decide +kernel) ⟨(by show ((90 + 4 * dd) + 1) ≤ 150; omega), (by show (23 + (2700 + 60 * dd)) ≤ 3600; omega)⟩) ⟨fun a U g mk q => by obtain ⟨q0, q1, qP, qK, qD, z0⟩ := q; exact ⟨q0, q1, qP, va_K.moved (u := U) (U := U.calling g mk a) (Vm.Alike.refl U.vm) qK, qD, EX.same (U := U) (U' := U.calling g mk a) rfl z0⟩, fun U hU hW => ⟨rfl, by rw [hU], by rw [hU]; exact hPc, va_K.moved hW.alike hKc, hDc.weaken (fun _ _ _ _ => trivial), by rw [hU]; exact EX.warm hW ((hE.kept (fun a h1 h2 => hS.2.1 a h1 h2)).narrow hFc)⟩⟩ rfl rfl hl.1 rfl (lv_room (Nat.le_of_ble_eq_true rfl)) d_SG_nextList_28 ⟨(by show ((1 + acl x1.length) + (acl (min 73 (x1.length + (evS (dj, ss) x).length)) - acl x1.length)) ≤ 7; omega), (by show ((3 + asl x1.length) + (asl (min 73 (x1.length + (evS (dj, ss) x).length)) - asl x1.length)) ≤ 205; omega)⟩) hS (fun q _ h => hFc q h) hFc (fun r30 u29 t H1 locs ht hvm hw31 hB hz1 hk1 hS => ?_)
        obtain ⟨hP1, hK1, hD1⟩ := hB
        rw [ht] at hP1
        have hK1 := va_K.moved hvm.symm hK1
        obtain ⟨w33, w34⟩ := u29
        replace hw31 : (r30 = 1 ∧ ALc cO em pl (x1 ++ w34) w33 ∧ VLS cB cO em aK fz w34 (evS (dj, ss) x) ∧ x1.length + w34.length ≤ 40) ∨ (r30 = 0 ∧ 40 < x1.length + (evS (dj, ss) x).length) := hw31
        obtain ⟨hP, hD⟩ := zz_join (pre := []) (fz := (lz1 ++ fz)) (wc := []) (wr := []) (w1 := ([] ++ (w33 ++ fz))) hP hD [] [] rfl rfl (by decide) (by decide) hk1 hFc hP1 hD1
        have hK := (hK.sub (tys' := []) [] rfl).app hK1
        generalize H1 = H at hP hS ⊢
        replace hP : va_P (dC, dI) vwCl ([] ++ (w33 ++ fz)) H := hP
        replace hD : va_D A ([] ++ (w33 ++ fz)) := hD
        replace hK : va_K (dC, dI) vwCl [(cB, .byte), (cO, .object "java/lang/Object")] s := hK
        clear hPc hDc hFc hKc hP1 hD1 hK1 hk1 hz1 ht hvm
        rcases hw31 with hw31 | hw31
        · obtain ⟨hr, hal9, hvl9, hln⟩ := hw31
          subst hr
          refine lv_if_ne (tgt := 36) hx hb d_SG_nextList_31 rfl (fun _ => ?_) (fun h9 => absurd h9 (by decide))
          have hyl := hvl9.1
          have hX : (x1 ++ w34).length = x1.length + w34.length := List.length_append
          have hXm : min 73 (x1.length + (evS (dj, ss) x).length) = (x1 ++ w34).length := by omega
          have hax1 : acl (x1 ++ w34).length = acl (min 73 (x1.length + (evS (dj, ss) x).length)) := by rw [hXm]
          have hay1 : asl (x1 ++ w34).length = asl (min 73 (x1.length + (evS (dj, ss) x).length)) := by rw [hXm]
          refine lv_iinc (k := 0) (v := ((nI i) + Int32.ofInt 1)) hx hb d_SG_nextList_36 hl rfl rfl (by decide) rfl (fun ls hl => ?_)
          replace hl : lv_has ls 4 [(3, .int ((nI i) + Int32.ofInt 1)), (2, .ref pl), (1, .ref li), (0, .ref g)] := hl
          rw [show nI i + Int32.ofInt 1 = nI (i + 1) from nI_1 _] at hl
          replace hl : lv_has ls 4 [(3, .int (nI (i + 1))), (2, .ref pl), (1, .ref li), (0, .ref g)] := hl
          refine lv_goto (tgt := 10) hx hb d_SG_nextList_39 rfl ?_
          refine W.widen (k := (1 + acl (x1 ++ w34).length)) (n := (3 + asl (x1 ++ w34).length)) (by omega) (by omega) ?_
          exact ih (x0.length - (i + 1)) (by omega) (i + 1) w33 (x1 ++ w34) H locs ls rfl (by omega) (hal9) (by rw [hEt]; exact hi6.cat hvl9) (by omega) (lv_sub hl [0, 1, 2, 3] rfl) (zz_pickP (pre := []) (fz := (w33 ++ fz)) (wc := []) hP [] rfl) (zz_pickD (pre := []) (fz := (w33 ++ fz)) (wc := []) hD [] (by decide) rfl) hS
        · obtain ⟨hr, hln⟩ := hw31
          subst hr
          refine lv_if_ne (tgt := 36) hx hb d_SG_nextList_31 rfl (fun h9 => absurd (rfl) h9) (fun _ => ?_)
          refine lv_null hx hb d_SG_nextList_34 ?_
          have hP9 := zz_pickP (pre := []) (fz := (w33 ++ fz)) (wc := []) hP [] rfl
          have hD9 := zz_pickD (pre := []) (fz := (w33 ++ fz)) (wc := []) hD [] (by decide) rfl
          have hK9 := hK.sub (tys' := [(cB, .byte), (cO, .object "java/lang/Object")]) [0, 1] rfl
          rw [hQ]
          refine W.widen (k := 7) (n := 205) ((by show ((1 + acl x1.length) + (acl (min 73 (x1.length + (evS (dj, ss) x).length)) - acl x1.length)) ≤ 7; omega)) ((by show ((3 + asl x1.length) + (asl (min 73 (x1.length + (evS (dj, ss) x).length)) - asl x1.length)) ≤ 205; omega)) ?_
          exact W.aret (v := .null) hx hb hr (Or.inl ⟨_, rfl⟩) (Or.inl rfl) (fun t ht hW => ⟨⟨none, w33, rfl, Or.inl ⟨rfl, by omega⟩, ⟨by rw [ht]; exact hP9, va_K.moved hW.alike hK9, hD9⟩⟩, hS.F ht⟩) hS.2.2 d_SG_nextList_35
  refine W.widen (k := (1 + acl ([] : List Nat).length)) (n := (3 + asl ([] : List Nat).length)) (by omega) (by omega) ?_
  exact hloop _ 0 ([(pl, .inr (14, [.ref em, .int 0, .int 0]))]) ([] : List Nat) _ _ ls rfl (Nat.zero_le _) (Or.inl ⟨rfl, 0, rfl⟩) (VLS.nil) (by decide) (lv_sub hl [0, 1, 3, 2] rfl) (zz_pickP (pre := []) (fz := ([(pl, .inr (14, [.ref em, .int 0, .int 0]))] ++ fz)) (wc := []) hP [] rfl) (zz_pickD (pre := []) (fz := ([(pl, .inr (14, [.ref em, .int 0, .int 0]))] ++ fz)) (wc := []) hD [] (by decide) rfl) hS
