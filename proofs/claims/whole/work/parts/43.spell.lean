def C_SC_parts5 (d : Nat) : Prop := ∀ (l : Launch) (dC : Nat → ClassId) (dI : Nat → Nat → Nat) (sz : Nat) (x : Nat) (wt : Int32) (q : Int32 × Int32) (a : Nat) (cB : ClassId) (cO : ClassId) (kd : Int32) (tx0 : Nat) (nu0 : Int64) (nm0 : Nat) (pa : Nat) (dp0 : Int32) (cn0 : Int32) (xs : List Nat) (ns : List (List Nat)) (rs : List (List Row)) (em : Nat) (aK : Nat → Nat) (aV : Nat → Nat) (fz : va_W) (hc : VAc a 3 tx0 nu0 nm0 pa dp0 cn0 ∈ fz) (hal : ALz cO em fz pa xs) (hns : ns.length = xs.length) (hrs : rs.length = xs.length) (hvl : ∀ i, i < xs.length → VT cB cO em aK d fz (xs.getD i 0) (ns.getD i []) (rs.getD i [])) , Met l y_SC_spellParts ws_SC_spellParts ({ frames := (7 + 2 * d), cells := 0, slots := 0, locals := (180 + 60 * d) }) (va_Pc [.ref x, .ref a, .int 91, .int 93] (fun U => U.heap.size = sz ∧ va_P (dC, dI) vwCl ([(x, .inr (8, [.int wt, .int q.1, .int q.2]))] ++ fz) U.heap ∧ va_K (dC, dI) vwCl [(cB, .byte), (cO, .object "java/lang/Object")] U ∧ va_D (fun _ => True) ([(x, .inr (8, [.int wt, .int q.1, .int q.2]))] ++ fz) ∧ EX em aK aV (va_A ([(x, .inr (8, [.int wt, .int q.1, .int q.2]))] ++ fz) sz) U U.heap)) (va_Qv (fun (u : Unit) => True) (fun u t => va_P (dC, dI) vwCl ([(x, .inr (8, [.int wt, .int (emz wt q (91 :: (kT 5 false ns rs ++ [93]))).1, .int (emz wt q (91 :: (kT 5 false ns rs ++ [93]))).2]))] ++ fz) t.heap ∧ va_K (dC, dI) vwCl [(cB, .byte), (cO, .object "java/lang/Object")] t ∧ va_D (va_A ([(x, .inr (8, [.int wt, .int q.1, .int q.2]))] ++ fz) sz) ([(x, .inr (8, [.int wt, .int (emz wt q (91 :: (kT 5 false ns rs ++ [93]))).1, .int (emz wt q (91 :: (kT 5 false ns rs ++ [93]))).2]))] ++ fz)) (va_A ([(x, .inr (8, [.int wt, .int q.1, .int q.2]))] ++ fz) sz)) 0 0 (va_A ([(x, .inr (8, [.int wt, .int q.1, .int q.2]))] ++ fz) sz)
def C_SC_parts6 (d : Nat) : Prop := ∀ (l : Launch) (dC : Nat → ClassId) (dI : Nat → Nat → Nat) (sz : Nat) (x : Nat) (wt : Int32) (q : Int32 × Int32) (a : Nat) (cB : ClassId) (cO : ClassId) (kd : Int32) (tx0 : Nat) (nu0 : Int64) (nm0 : Nat) (pa : Nat) (dp0 : Int32) (cn0 : Int32) (xs : List Nat) (ns : List (List Nat)) (rs : List (List Row)) (em : Nat) (aK : Nat → Nat) (aV : Nat → Nat) (fz : va_W) (hc : VAc a 4 tx0 nu0 nm0 pa dp0 cn0 ∈ fz) (hal : ALz cO em fz pa xs) (hns : ns.length = xs.length) (hrs : rs.length = xs.length) (hvl : ∀ i, i < xs.length → VT cB cO em aK d fz (xs.getD i 0) (ns.getD i []) (rs.getD i [])) , Met l y_SC_spellParts ws_SC_spellParts ({ frames := (7 + 2 * d), cells := 0, slots := 0, locals := (180 + 60 * d) }) (va_Pc [.ref x, .ref a, .int 123, .int 125] (fun U => U.heap.size = sz ∧ va_P (dC, dI) vwCl ([(x, .inr (8, [.int wt, .int q.1, .int q.2]))] ++ fz) U.heap ∧ va_K (dC, dI) vwCl [(cB, .byte), (cO, .object "java/lang/Object")] U ∧ va_D (fun _ => True) ([(x, .inr (8, [.int wt, .int q.1, .int q.2]))] ++ fz) ∧ EX em aK aV (va_A ([(x, .inr (8, [.int wt, .int q.1, .int q.2]))] ++ fz) sz) U U.heap)) (va_Qv (fun (u : Unit) => True) (fun u t => va_P (dC, dI) vwCl ([(x, .inr (8, [.int wt, .int (emz wt q (123 :: (kT 6 false ns rs ++ [125]))).1, .int (emz wt q (123 :: (kT 6 false ns rs ++ [125]))).2]))] ++ fz) t.heap ∧ va_K (dC, dI) vwCl [(cB, .byte), (cO, .object "java/lang/Object")] t ∧ va_D (va_A ([(x, .inr (8, [.int wt, .int q.1, .int q.2]))] ++ fz) sz) ([(x, .inr (8, [.int wt, .int (emz wt q (123 :: (kT 6 false ns rs ++ [125]))).1, .int (emz wt q (123 :: (kT 6 false ns rs ++ [125]))).2]))] ++ fz)) (va_A ([(x, .inr (8, [.int wt, .int q.1, .int q.2]))] ++ fz) sz)) 0 0 (va_A ([(x, .inr (8, [.int wt, .int q.1, .int q.2]))] ++ fz) sz)
set_option maxHeartbeats 1000000 in
set_option maxRecDepth 100000 in
/-- spell(value) -/
theorem k_SC_spell (l : Launch) (dC : Nat → ClassId) (dI : Nat → Nat → Nat) (sz : Nat) (d : Nat) (x : Nat) (wt : Int32) (q : Int32 × Int32) (a : Nat) (nn : List Nat) (rows : List Row) (cB : ClassId) (cO : ClassId) (em : Nat) (aK : Nat → Nat) (aV : Nat → Nat) (fz : va_W) (hv : VT cB cO em aK d fz a nn rows) (HP5 : ∀ d1, d = d1 + 1 → C_SC_parts5 d1) (HP6 : ∀ d1, d = d1 + 1 → C_SC_parts6 d1) : Met l y_SC_spell ws_SC_spell ({ frames := (6 + 2 * d), cells := 0, slots := 0, locals := (150 + 60 * d) }) (va_Pc [.ref x, .ref a] (fun U => U.heap.size = sz ∧ va_P (dC, dI) vwCl ([(x, .inr (8, [.int wt, .int q.1, .int q.2]))] ++ fz) U.heap ∧ va_K (dC, dI) vwCl [(cB, .byte), (cO, .object "java/lang/Object")] U ∧ va_D (fun _ => True) ([(x, .inr (8, [.int wt, .int q.1, .int q.2]))] ++ fz) ∧ EX em aK aV (va_A ([(x, .inr (8, [.int wt, .int q.1, .int q.2]))] ++ fz) sz) U U.heap)) (va_Qv (fun (u : Unit) => True) (fun u t => va_P (dC, dI) vwCl ([(x, .inr (8, [.int wt, .int (emz wt q (txt rows)).1, .int (emz wt q (txt rows)).2]))] ++ fz) t.heap ∧ va_K (dC, dI) vwCl [(cB, .byte), (cO, .object "java/lang/Object")] t ∧ va_D (va_A ([(x, .inr (8, [.int wt, .int q.1, .int q.2]))] ++ fz) sz) ([(x, .inr (8, [.int wt, .int (emz wt q (txt rows)).1, .int (emz wt q (txt rows)).2]))] ++ fz)) (va_A ([(x, .inr (8, [.int wt, .int q.1, .int q.2]))] ++ fz) sz)) 0 0 (va_A ([(x, .inr (8, [.int wt, .int q.1, .int q.2]))] ++ fz) sz) := by
  refine Met.ofW (cc := c_SC_spell) (maxL := 3) (ret := none) (by decide) rfl ?_
  intro p e s m args below meth c s₁ B hml hv
  obtain ⟨hargs, hsz, hP, hK, hD0, hE⟩ := hv
  rw [show entryFrame m args 3 = entryFrame m ([.ref x, .ref a]).toArray 3 by rw [hargs]]
  have hx := B.exec
  have hb := B.bytes
  have hr := B.returns
  have hts := atoms_spec (ws := ws_SC_spell) B.pre
  have htb := fun w (h : w ∈ TBL) => hts w (List.mem_cons_of_mem _ h)
  have hown : s.vm.findClass R_SC = some m.cls := findClass_of_methodNamed B.named
  have hlocks := B.notSynchronized
  subst hsz
  have hD := hD0.self (sz := s.heap.size)
  generalize hAe : va_A ([(x, .inr (8, [.int wt, .int q.1, .int q.2]))] ++ fz) s.heap.size = A at hD hE ⊢
  have hA : ∀ q : Nat, s.heap.size ≤ q → A q := fun q h => by rw [← hAe]; exact Or.inr h
  have hS : va_S A s.heap s.heap [] := va_S.rf
  have hP : va_P (dC, dI) vwCl ([(x, .inr (8, [.int wt, .int q.1, .int q.2]))] ++ fz) s.heap := hP
  have hl := lv_entry ([.ref x, .ref a]) (n := 3) (Nat.le_of_ble_eq_true rfl)
  rw [lg_entry_eq]
  generalize (lg_sl ([.ref x, .ref a]) ++ List.replicate (3 - (lg_sl ([.ref x, .ref a])).length) Slot.unset).toArray = ls at hl ⊢
  have hl : lv_has ls 3 [(0, .ref x), (1, .ref a)] := hl
  refine zz_nQ (fun Q hQ => ?_)
  obtain ⟨d1, hd1⟩ : ∃ d1, d = d1 + 1 := by cases d with | zero => exact hv.elim | succ d1 => exact ⟨d1, rfl⟩
  rw [hd1] at hv
  have hv0 := hv
  obtain ⟨kd, tx, nu, nm, pa, dp, cn, tt, k, num, rt, xs, ns, rs, hc, htx, hnm, hal, hhd, hns, hrs, hk5, hvl, hrw, -⟩ := hv
  rcases hhd with ⟨hkd, hk, htt0, -⟩ | ⟨hkd, hk, htt0, -⟩ | ⟨hkd, hk, htt0, -⟩ | ⟨hkd, hk, htt0, -⟩ | ⟨hkd, hk, htt0, -⟩
  · have hrs0 : rs = [] := by have := hk5 (by omega); rw [this] at hrs; exact List.length_eq_zero_iff.mp hrs
    have hns0 : ns = [] := by have := hk5 (by omega); rw [this] at hns; exact List.length_eq_zero_iff.mp hns
    have htt : txt rows = tt := by rw [hrw, hrs0, hns0]; show txt [(k, 0, num, rt, [])] = tt; rw [txt_leaf (by omega)]; show (if k ≤ 2 then LTx.getD (k + 2) [] else _) = tt; rw [if_pos hk]; exact htt0.symm
    rw [hkd] at hc
    refine lv_aload_n hx hb d_SC_spell_0 rfl (lv_at hl 1 rfl) ?_
    obtain ⟨qz1, hz1⟩ := List.getElem?_of_mem (List.mem_append_right [(x, .inr (8, [.int wt, .int q.1, .int q.2]))] hc)
    refine va_get (D := (dC, dI)) (ci := 3) (v := .int 0) (C := R_VA) (T := T_VA) (N := 7) hx hb htb in_VA hown hK hP qz1 hz1 rfl 0 (by decide) (htb _ m_380) (fun _ h9 => h9) rfl d_SC_spell_1 ?_
    refine lv_iconst (v := 2) hx hb d_SC_spell_4 (by decide) ?_
    refine lv_icmp_ne (tgt := 19) hx hb d_SC_spell_5 rfl (fun _ => ?_) (fun h9 => absurd h9 (by decide))
    refine lv_aload_n hx hb d_SC_spell_19 rfl (lv_at hl 1 rfl) ?_
    obtain ⟨qz2, hz2⟩ := List.getElem?_of_mem (List.mem_append_right [(x, .inr (8, [.int wt, .int q.1, .int q.2]))] hc)
    refine va_get (D := (dC, dI)) (ci := 3) (v := .int 0) (C := R_VA) (T := T_VA) (N := 7) hx hb htb in_VA hown hK hP qz2 hz2 rfl 0 (by decide) (htb _ m_380) (fun _ h9 => h9) rfl d_SC_spell_20 ?_
    refine lv_iconst (v := 3) hx hb d_SC_spell_23 (by decide) ?_
    refine lv_icmp_ne (tgt := 39) hx hb d_SC_spell_24 rfl (fun _ => ?_) (fun h9 => absurd h9 (by decide))
    refine lv_aload_n hx hb d_SC_spell_39 rfl (lv_at hl 1 rfl) ?_
    obtain ⟨qz3, hz3⟩ := List.getElem?_of_mem (List.mem_append_right [(x, .inr (8, [.int wt, .int q.1, .int q.2]))] hc)
    refine va_get (D := (dC, dI)) (ci := 3) (v := .int 0) (C := R_VA) (T := T_VA) (N := 7) hx hb htb in_VA hown hK hP qz3 hz3 rfl 0 (by decide) (htb _ m_380) (fun _ h9 => h9) rfl d_SC_spell_40 ?_
    refine lv_iconst (v := 4) hx hb d_SC_spell_43 (by decide) ?_
    refine lv_icmp_ne (tgt := 59) hx hb d_SC_spell_44 rfl (fun _ => ?_) (fun h9 => absurd h9 (by decide))
    refine lv_iconst (v := 0) hx hb d_SC_spell_59 (by decide) ?_
    refine lv_istore_n hx hb d_SC_spell_60 rfl hl (by decide) rfl (fun ls hl => ?_)
    have hl : lv_has ls 3 [(2, .int 0), (0, .ref x), (1, .ref a)] := hl
    have hloop : ∀ (k9 : Nat) (i : Nat) (H : Heap) (locs : List Loc) (ls : Array Slot), tt.length - i = k9 → (i ≤ tt.length) → lv_has ls 3 [(2, .int (nI i)), (0, .ref x), (1, .ref a)] → va_P (dC, dI) vwCl ([(x, .inr (8, [.int wt, .int (emz wt q (tt.take i)).1, .int (emz wt q (tt.take i)).2]))] ++ fz) H → va_D A ([(x, .inr (8, [.int wt, .int (emz wt q (tt.take i)).1, .int (emz wt q (tt.take i)).2]))] ++ fz) → va_S A s.heap H locs → W p l e (headSpec ws_SC_spell ({ frames := (6 + 2 * d), cells := 0, slots := 0, locals := (150 + 60 * d) })).room s m args below meth c H locs 0 0 Q (F0 m 61 ls []) := by
      intro k9
      induction k9 using Nat.strongRecOn with
      | ind k9 ih =>
        intro i H locs ls hk9 hi hl hP hD hS
        refine lv_iload_n hx hb d_SC_spell_61 rfl (lv_at hl 0 rfl) ?_
        refine lv_aload_n hx hb d_SC_spell_62 rfl (lv_at hl 2 rfl) ?_
        obtain ⟨qz4, hz4⟩ := List.getElem?_of_mem (List.mem_append_right [(x, .inr (8, [.int wt, .int (emz wt q (tt.take i)).1, .int (emz wt q (tt.take i)).2]))] hc)
        refine va_get (D := (dC, dI)) (ci := 3) (v := .ref tx) (C := R_VA) (T := T_VA) (N := 7) hx hb htb in_VA hown hK hP qz4 hz4 rfl 1 (by decide) (htb _ m_385) (fun _ h9 => h9) rfl d_SC_spell_63 ?_
        obtain ⟨v_a, hSV_a⟩ := htx.sv htb hE (fun q h1 h2 => hS.2.1 q h1 h2) hK hP (fun q hq => List.mem_append_right _ hq) 0 rfl
        have hlt : tt.length < 65536 := hSV_a.2.2.2.2.2
        have hPc : va_P (dC, dI) vwCl [] _ := hP.sub (ws' := []) [] rfl
        have hKc := hK.sub (tys' := []) [] rfl
        refine vp_callSi (W.runV (As := []) (rest := [.int (nI i)]) ⟨hx, hb, hml, hown, htb⟩ (q_ST_length l dC dI tx v_a tt em aK aV A ) (cwV 0 htb (g_V (fun _ h => h) m_452 m_1085 m_450 m_451 m_4) rfl rfl rfl (by decide +kernel) ⟨(by show 2 ≤ (6 + 2 * d); omega), (by show 40 ≤ (150 + 60 * d); omega)⟩) ⟨fun a U g mk q => by obtain ⟨q0, qP, qK, z0, z1⟩ := q; exact ⟨q0, qP, va_K.moved (u := U) (U := U.calling g mk a) (Vm.Alike.refl U.vm) qK, EX.same (U := U) (U' := U.calling g mk a) rfl z0, SV.moved (Vm.Alike.refl U.vm) z1⟩, hSV_a.recv, fun U hU hW => ⟨rfl, by rw [hU]; exact hPc, va_K.moved hW.alike hKc, by rw [hU]; exact EX.warm hW (hE.kept (fun a h1 h2 => hS.2.1 a h1 h2)), by rw [hU]; exact SV.moved hW.alike hSV_a⟩⟩ rfl rfl hl.1 rfl (lv_room (Nat.le_of_ble_eq_true rfl)) d_SC_spell_66 ⟨Nat.le_of_ble_eq_true rfl, Nat.le_of_ble_eq_true rfl⟩) (fun r5 hw6 => ?_)
        have hw6 : r5 = nI tt.length := hw6
        obtain rfl := hw6
        refine lv_icmp_ge (tgt := 90) hx hb d_SC_spell_69 rfl (fun h1 => ?_) (fun h1 => ?_)
        · have h1 : tt.length ≤ i := (nI_leI (by omega) (by omega)).mp h1
          rw [List.take_of_length_le h1, ← htt] at hP hD
          have hP : va_P (dC, dI) vwCl ([(x, .inr (8, [.int wt, .int (emz wt q (txt rows)).1, .int (emz wt q (txt rows)).2]))] ++ fz) H := hP
          have hD : va_D A ([(x, .inr (8, [.int wt, .int (emz wt q (txt rows)).1, .int (emz wt q (txt rows)).2]))] ++ fz) := hD
          have hP9 := zz_pickP (pre := [(x, .inr (8, [.int wt, .int (emz wt q (txt rows)).1, .int (emz wt q (txt rows)).2]))]) (fz := fz) (wc := [(x, .inr (8, [.int wt, .int (emz wt q (txt rows)).1, .int (emz wt q (txt rows)).2]))]) hP [0] rfl
          have hD9 := zz_pickD (pre := [(x, .inr (8, [.int wt, .int (emz wt q (txt rows)).1, .int (emz wt q (txt rows)).2]))]) (fz := fz) (wc := [(x, .inr (8, [.int wt, .int (emz wt q (txt rows)).1, .int (emz wt q (txt rows)).2]))]) hD [0] (by decide) rfl
          have hK9 := hK.sub (tys' := [(cB, .byte), (cO, .object "java/lang/Object")]) [0, 1] rfl
          rw [hQ]
          refine W.widen (k := 0) (n := 0) (Nat.le_of_ble_eq_true rfl) (Nat.le_of_ble_eq_true rfl) ?_
          exact W.vret hx hb hr (fun t ht hW => ⟨⟨(), rfl, trivial, ⟨by rw [ht]; exact hP9, va_K.moved hW.alike hK9, hD9⟩⟩, hS.F ht⟩) hS.2.2 d_SC_spell_90
        · have h1 : i < tt.length := Nat.not_le.mp (fun h => h1 ((nI_leI (by omega) (by omega)).mpr h))
          refine lv_aload_n hx hb d_SC_spell_72 rfl (lv_at hl 1 rfl) ?_
          refine lv_aload_n hx hb d_SC_spell_73 rfl (lv_at hl 2 rfl) ?_
          obtain ⟨qz7, hz7⟩ := List.getElem?_of_mem (List.mem_append_right [(x, .inr (8, [.int wt, .int (emz wt q (tt.take i)).1, .int (emz wt q (tt.take i)).2]))] hc)
          refine va_get (D := (dC, dI)) (ci := 3) (v := .ref tx) (C := R_VA) (T := T_VA) (N := 7) hx hb htb in_VA hown hK hP qz7 hz7 rfl 1 (by decide) (htb _ m_385) (fun _ h9 => h9) rfl d_SC_spell_74 ?_
          refine lv_iload_n hx hb d_SC_spell_77 rfl (lv_at hl 0 rfl) ?_
          have hPc : va_P (dC, dI) vwCl [] _ := hP.sub (ws' := []) [] rfl
          have hKc := hK.sub (tys' := []) [] rfl
          refine vp_callSi (W.runV (As := [.int (nI i)]) (rest := [.ref x]) ⟨hx, hb, hml, hown, htb⟩ (q_ST_charAt l dC dI tx v_a tt em aK aV A i h1) (cwV 1 htb (g_V (fun _ h => h) m_460 m_1086 m_458 m_459 m_4) rfl rfl rfl (by decide +kernel) ⟨(by show 4 ≤ (6 + 2 * d); omega), (by show 85 ≤ (150 + 60 * d); omega)⟩) ⟨fun a U g mk q => by obtain ⟨q0, qP, qK, z0, z1⟩ := q; exact ⟨q0, qP, va_K.moved (u := U) (U := U.calling g mk a) (Vm.Alike.refl U.vm) qK, EX.same (U := U) (U' := U.calling g mk a) rfl z0, SV.moved (Vm.Alike.refl U.vm) z1⟩, hSV_a.recv, fun U hU hW => ⟨rfl, by rw [hU]; exact hPc, va_K.moved hW.alike hKc, by rw [hU]; exact EX.warm hW (hE.kept (fun a h1 h2 => hS.2.1 a h1 h2)), by rw [hU]; exact SV.moved hW.alike hSV_a⟩⟩ rfl rfl hl.1 rfl (lv_room (Nat.le_of_ble_eq_true rfl)) d_SC_spell_78 ⟨Nat.le_of_ble_eq_true rfl, Nat.le_of_ble_eq_true rfl⟩) (fun r8 hw9 => ?_)
          have hw9 : r8 = nI (tt.getD i 0) := hw9
          obtain rfl := hw9
          have hPc := hP.sub (ws' := [(x, .inr (8, [.int wt, .int (emz wt q (tt.take i)).1, .int (emz wt q (tt.take i)).2]))]) [0] rfl
          have hDc := hD.sub (ws' := [(x, .inr (8, [.int wt, .int (emz wt q (tt.take i)).1, .int (emz wt q (tt.take i)).2]))]) [0] (by decide) rfl
          have hFc := va_free (wc := [(x, .inr (8, [.int wt, .int (emz wt q (tt.take i)).1, .int (emz wt q (tt.take i)).2]))]) hD hS hA [0] rfl
          have hKc := hK.sub (tys' := []) [] rfl
          refine va_callv (va_runV (As := [.int (nI (tt.getD i 0))]) (rest := []) ⟨hx, hb, hml, hown, htb⟩ (k_SC_next l dC dI _ x wt (emz wt q (tt.take i)) (tt.getD i 0) ) (cwV 1 htb (g_V (fun _ h => h) m_1084 m_1081 m_1083 m_1647 m_28) rfl rfl rfl (by decide +kernel) ⟨(by show 1 ≤ (6 + 2 * d); omega), (by show 21 ≤ (150 + 60 * d); omega)⟩) ⟨fun a U g mk q => by obtain ⟨q0, q1, qP, qK, qD⟩ := q; exact ⟨q0, q1, qP, va_K.moved (u := U) (U := U.calling g mk a) (Vm.Alike.refl U.vm) qK, qD⟩, va_recv hK hP (ci := 8) rfl (q0 := 0) rfl, fun U hU hW => ⟨rfl, by rw [hU], by rw [hU]; exact hPc, va_K.moved hW.alike hKc, hDc.weaken (fun _ _ _ _ => trivial)⟩⟩ rfl rfl hl.1 rfl (lv_room (Nat.le_of_ble_eq_true rfl)) d_SC_spell_81 ⟨Nat.le_of_ble_eq_true rfl, Nat.le_of_ble_eq_true rfl⟩) hS (fun q _ h => hFc q h) hFc (fun u10 t H1 locs ht hvm hw12 hB hz1 hk1 hS => ?_)
          obtain ⟨hP1, hK1, hD1⟩ := hB
          rw [ht] at hP1
          have hK1 := va_K.moved hvm.symm hK1
          have hw12 : True := hw12
          obtain ⟨hP, hD⟩ := zz_joinN (pre := [(x, .inr (8, [.int wt, .int (emz wt q (tt.take i)).1, .int (emz wt q (tt.take i)).2]))]) (fz := fz) (wc := [(x, .inr (8, [.int wt, .int (emz wt q (tt.take i)).1, .int (emz wt q (tt.take i)).2]))]) (wr := []) (w1 := [(x, .inr (8, [.int wt, .int (emt wt (emz wt q (tt.take i)) (tt.getD i 0)).1, .int (emt wt (emz wt q (tt.take i)) (tt.getD i 0)).2]))]) hP hD [0] [] rfl rfl (by decide) (by decide) hk1 hFc hP1 hD1
          have hK := (hK.sub (tys' := [(cB, .byte), (cO, .object "java/lang/Object")]) [0, 1] rfl).app hK1
          generalize H1 = H at hP hS ⊢
          have hP : va_P (dC, dI) vwCl ([(x, .inr (8, [.int wt, .int (emt wt (emz wt q (tt.take i)) (tt.getD i 0)).1, .int (emt wt (emz wt q (tt.take i)) (tt.getD i 0)).2]))] ++ fz) H := hP
          have hD : va_D A ([(x, .inr (8, [.int wt, .int (emt wt (emz wt q (tt.take i)) (tt.getD i 0)).1, .int (emt wt (emz wt q (tt.take i)) (tt.getD i 0)).2]))] ++ fz) := hD
          have hK : va_K (dC, dI) vwCl [(cB, .byte), (cO, .object "java/lang/Object")] s := hK
          rw [show (emt wt (emz wt q (tt.take i)) (tt.getD i 0)) = (emz wt q (tt.take (i + 1))) from by rw [take_step 0 h1, emz_app]; rfl] at hP hD
          have hP : va_P (dC, dI) vwCl ([(x, .inr (8, [.int wt, .int (emz wt q (tt.take (i + 1))).1, .int (emz wt q (tt.take (i + 1))).2]))] ++ fz) H := hP
          have hD : va_D A ([(x, .inr (8, [.int wt, .int (emz wt q (tt.take (i + 1))).1, .int (emz wt q (tt.take (i + 1))).2]))] ++ fz) := hD
          refine lv_iinc (k := 0) (v := ((nI i) + Int32.ofInt 1)) hx hb d_SC_spell_84 hl rfl rfl (by decide) rfl (fun ls hl => ?_)
          have hl : lv_has ls 3 [(2, .int ((nI i) + Int32.ofInt 1)), (0, .ref x), (1, .ref a)] := hl
          rw [show nI i + Int32.ofInt 1 = nI (i + 1) from nI_1 _] at hl
          refine lv_goto (tgt := 61) hx hb d_SC_spell_87 rfl ?_
          exact ih (tt.length - (i + 1)) (by omega) (i + 1) H locs ls rfl (by omega) (lv_sub hl [0, 1, 2] rfl) (zz_pickP (pre := [(x, .inr (8, [.int wt, .int (emz wt q (tt.take (i + 1))).1, .int (emz wt q (tt.take (i + 1))).2]))]) (fz := fz) (wc := [(x, .inr (8, [.int wt, .int (emz wt q (tt.take (i + 1))).1, .int (emz wt q (tt.take (i + 1))).2]))]) hP [0] rfl) (zz_pickD (pre := [(x, .inr (8, [.int wt, .int (emz wt q (tt.take (i + 1))).1, .int (emz wt q (tt.take (i + 1))).2]))]) (fz := fz) (wc := [(x, .inr (8, [.int wt, .int (emz wt q (tt.take (i + 1))).1, .int (emz wt q (tt.take (i + 1))).2]))]) hD [0] (by decide) rfl) hS
    exact hloop _ 0 _ _ ls rfl (Nat.zero_le _) (lv_sub hl [0, 1, 2] rfl) (zz_pickP (pre := [(x, .inr (8, [.int wt, .int q.1, .int q.2]))]) (fz := fz) (wc := [(x, .inr (8, [.int wt, .int (emz wt q (tt.take 0)).1, .int (emz wt q (tt.take 0)).2]))]) hP [0] rfl) (zz_pickD (pre := [(x, .inr (8, [.int wt, .int q.1, .int q.2]))]) (fz := fz) (wc := [(x, .inr (8, [.int wt, .int (emz wt q (tt.take 0)).1, .int (emz wt q (tt.take 0)).2]))]) hD [0] (by decide) rfl) hS
  · have hrs0 : rs = [] := by have := hk5 (by omega); rw [this] at hrs; exact List.length_eq_zero_iff.mp hrs
    have hns0 : ns = [] := by have := hk5 (by omega); rw [this] at hns; exact List.length_eq_zero_iff.mp hns
    have htt : txt rows = tt := by rw [hrw, hrs0, hns0]; show txt [(k, 0, num, rt, [])] = tt; rw [txt_leaf (by omega)]; show (if k ≤ 2 then _ else if k = 3 then dec num else _) = tt; rw [if_neg (by omega), if_pos hk]; exact htt0.symm
    rw [hkd] at hc
    refine lv_aload_n hx hb d_SC_spell_0 rfl (lv_at hl 1 rfl) ?_
    obtain ⟨qz1, hz1⟩ := List.getElem?_of_mem (List.mem_append_right [(x, .inr (8, [.int wt, .int q.1, .int q.2]))] hc)
    refine va_get (D := (dC, dI)) (ci := 3) (v := .int 1) (C := R_VA) (T := T_VA) (N := 7) hx hb htb in_VA hown hK hP qz1 hz1 rfl 0 (by decide) (htb _ m_380) (fun _ h9 => h9) rfl d_SC_spell_1 ?_
    refine lv_iconst (v := 2) hx hb d_SC_spell_4 (by decide) ?_
    refine lv_icmp_ne (tgt := 19) hx hb d_SC_spell_5 rfl (fun _ => ?_) (fun h9 => absurd h9 (by decide))
    refine lv_aload_n hx hb d_SC_spell_19 rfl (lv_at hl 1 rfl) ?_
    obtain ⟨qz2, hz2⟩ := List.getElem?_of_mem (List.mem_append_right [(x, .inr (8, [.int wt, .int q.1, .int q.2]))] hc)
    refine va_get (D := (dC, dI)) (ci := 3) (v := .int 1) (C := R_VA) (T := T_VA) (N := 7) hx hb htb in_VA hown hK hP qz2 hz2 rfl 0 (by decide) (htb _ m_380) (fun _ h9 => h9) rfl d_SC_spell_20 ?_
    refine lv_iconst (v := 3) hx hb d_SC_spell_23 (by decide) ?_
    refine lv_icmp_ne (tgt := 39) hx hb d_SC_spell_24 rfl (fun _ => ?_) (fun h9 => absurd h9 (by decide))
    refine lv_aload_n hx hb d_SC_spell_39 rfl (lv_at hl 1 rfl) ?_
    obtain ⟨qz3, hz3⟩ := List.getElem?_of_mem (List.mem_append_right [(x, .inr (8, [.int wt, .int q.1, .int q.2]))] hc)
    refine va_get (D := (dC, dI)) (ci := 3) (v := .int 1) (C := R_VA) (T := T_VA) (N := 7) hx hb htb in_VA hown hK hP qz3 hz3 rfl 0 (by decide) (htb _ m_380) (fun _ h9 => h9) rfl d_SC_spell_40 ?_
    refine lv_iconst (v := 4) hx hb d_SC_spell_43 (by decide) ?_
    refine lv_icmp_ne (tgt := 59) hx hb d_SC_spell_44 rfl (fun _ => ?_) (fun h9 => absurd h9 (by decide))
    refine lv_iconst (v := 0) hx hb d_SC_spell_59 (by decide) ?_
    refine lv_istore_n hx hb d_SC_spell_60 rfl hl (by decide) rfl (fun ls hl => ?_)
    have hl : lv_has ls 3 [(2, .int 0), (0, .ref x), (1, .ref a)] := hl
    have hloop : ∀ (k9 : Nat) (i : Nat) (H : Heap) (locs : List Loc) (ls : Array Slot), tt.length - i = k9 → (i ≤ tt.length) → lv_has ls 3 [(2, .int (nI i)), (0, .ref x), (1, .ref a)] → va_P (dC, dI) vwCl ([(x, .inr (8, [.int wt, .int (emz wt q (tt.take i)).1, .int (emz wt q (tt.take i)).2]))] ++ fz) H → va_D A ([(x, .inr (8, [.int wt, .int (emz wt q (tt.take i)).1, .int (emz wt q (tt.take i)).2]))] ++ fz) → va_S A s.heap H locs → W p l e (headSpec ws_SC_spell ({ frames := (6 + 2 * d), cells := 0, slots := 0, locals := (150 + 60 * d) })).room s m args below meth c H locs 0 0 Q (F0 m 61 ls []) := by
      intro k9
      induction k9 using Nat.strongRecOn with
      | ind k9 ih =>
        intro i H locs ls hk9 hi hl hP hD hS
        refine lv_iload_n hx hb d_SC_spell_61 rfl (lv_at hl 0 rfl) ?_
        refine lv_aload_n hx hb d_SC_spell_62 rfl (lv_at hl 2 rfl) ?_
        obtain ⟨qz4, hz4⟩ := List.getElem?_of_mem (List.mem_append_right [(x, .inr (8, [.int wt, .int (emz wt q (tt.take i)).1, .int (emz wt q (tt.take i)).2]))] hc)
        refine va_get (D := (dC, dI)) (ci := 3) (v := .ref tx) (C := R_VA) (T := T_VA) (N := 7) hx hb htb in_VA hown hK hP qz4 hz4 rfl 1 (by decide) (htb _ m_385) (fun _ h9 => h9) rfl d_SC_spell_63 ?_
        obtain ⟨v_a, hSV_a⟩ := htx.sv htb hE (fun q h1 h2 => hS.2.1 q h1 h2) hK hP (fun q hq => List.mem_append_right _ hq) 0 rfl
        have hlt : tt.length < 65536 := hSV_a.2.2.2.2.2
        have hPc : va_P (dC, dI) vwCl [] _ := hP.sub (ws' := []) [] rfl
        have hKc := hK.sub (tys' := []) [] rfl
        refine vp_callSi (W.runV (As := []) (rest := [.int (nI i)]) ⟨hx, hb, hml, hown, htb⟩ (q_ST_length l dC dI tx v_a tt em aK aV A ) (cwV 0 htb (g_V (fun _ h => h) m_452 m_1085 m_450 m_451 m_4) rfl rfl rfl (by decide +kernel) ⟨(by show 2 ≤ (6 + 2 * d); omega), (by show 40 ≤ (150 + 60 * d); omega)⟩) ⟨fun a U g mk q => by obtain ⟨q0, qP, qK, z0, z1⟩ := q; exact ⟨q0, qP, va_K.moved (u := U) (U := U.calling g mk a) (Vm.Alike.refl U.vm) qK, EX.same (U := U) (U' := U.calling g mk a) rfl z0, SV.moved (Vm.Alike.refl U.vm) z1⟩, hSV_a.recv, fun U hU hW => ⟨rfl, by rw [hU]; exact hPc, va_K.moved hW.alike hKc, by rw [hU]; exact EX.warm hW (hE.kept (fun a h1 h2 => hS.2.1 a h1 h2)), by rw [hU]; exact SV.moved hW.alike hSV_a⟩⟩ rfl rfl hl.1 rfl (lv_room (Nat.le_of_ble_eq_true rfl)) d_SC_spell_66 ⟨Nat.le_of_ble_eq_true rfl, Nat.le_of_ble_eq_true rfl⟩) (fun r5 hw6 => ?_)
        have hw6 : r5 = nI tt.length := hw6
        obtain rfl := hw6
        refine lv_icmp_ge (tgt := 90) hx hb d_SC_spell_69 rfl (fun h1 => ?_) (fun h1 => ?_)
        · have h1 : tt.length ≤ i := (nI_leI (by omega) (by omega)).mp h1
          rw [List.take_of_length_le h1, ← htt] at hP hD
          have hP : va_P (dC, dI) vwCl ([(x, .inr (8, [.int wt, .int (emz wt q (txt rows)).1, .int (emz wt q (txt rows)).2]))] ++ fz) H := hP
          have hD : va_D A ([(x, .inr (8, [.int wt, .int (emz wt q (txt rows)).1, .int (emz wt q (txt rows)).2]))] ++ fz) := hD
          have hP9 := zz_pickP (pre := [(x, .inr (8, [.int wt, .int (emz wt q (txt rows)).1, .int (emz wt q (txt rows)).2]))]) (fz := fz) (wc := [(x, .inr (8, [.int wt, .int (emz wt q (txt rows)).1, .int (emz wt q (txt rows)).2]))]) hP [0] rfl
          have hD9 := zz_pickD (pre := [(x, .inr (8, [.int wt, .int (emz wt q (txt rows)).1, .int (emz wt q (txt rows)).2]))]) (fz := fz) (wc := [(x, .inr (8, [.int wt, .int (emz wt q (txt rows)).1, .int (emz wt q (txt rows)).2]))]) hD [0] (by decide) rfl
          have hK9 := hK.sub (tys' := [(cB, .byte), (cO, .object "java/lang/Object")]) [0, 1] rfl
          rw [hQ]
          refine W.widen (k := 0) (n := 0) (Nat.le_of_ble_eq_true rfl) (Nat.le_of_ble_eq_true rfl) ?_
          exact W.vret hx hb hr (fun t ht hW => ⟨⟨(), rfl, trivial, ⟨by rw [ht]; exact hP9, va_K.moved hW.alike hK9, hD9⟩⟩, hS.F ht⟩) hS.2.2 d_SC_spell_90
        · have h1 : i < tt.length := Nat.not_le.mp (fun h => h1 ((nI_leI (by omega) (by omega)).mpr h))
          refine lv_aload_n hx hb d_SC_spell_72 rfl (lv_at hl 1 rfl) ?_
          refine lv_aload_n hx hb d_SC_spell_73 rfl (lv_at hl 2 rfl) ?_
          obtain ⟨qz7, hz7⟩ := List.getElem?_of_mem (List.mem_append_right [(x, .inr (8, [.int wt, .int (emz wt q (tt.take i)).1, .int (emz wt q (tt.take i)).2]))] hc)
          refine va_get (D := (dC, dI)) (ci := 3) (v := .ref tx) (C := R_VA) (T := T_VA) (N := 7) hx hb htb in_VA hown hK hP qz7 hz7 rfl 1 (by decide) (htb _ m_385) (fun _ h9 => h9) rfl d_SC_spell_74 ?_
          refine lv_iload_n hx hb d_SC_spell_77 rfl (lv_at hl 0 rfl) ?_
          have hPc : va_P (dC, dI) vwCl [] _ := hP.sub (ws' := []) [] rfl
          have hKc := hK.sub (tys' := []) [] rfl
          refine vp_callSi (W.runV (As := [.int (nI i)]) (rest := [.ref x]) ⟨hx, hb, hml, hown, htb⟩ (q_ST_charAt l dC dI tx v_a tt em aK aV A i h1) (cwV 1 htb (g_V (fun _ h => h) m_460 m_1086 m_458 m_459 m_4) rfl rfl rfl (by decide +kernel) ⟨(by show 4 ≤ (6 + 2 * d); omega), (by show 85 ≤ (150 + 60 * d); omega)⟩) ⟨fun a U g mk q => by obtain ⟨q0, qP, qK, z0, z1⟩ := q; exact ⟨q0, qP, va_K.moved (u := U) (U := U.calling g mk a) (Vm.Alike.refl U.vm) qK, EX.same (U := U) (U' := U.calling g mk a) rfl z0, SV.moved (Vm.Alike.refl U.vm) z1⟩, hSV_a.recv, fun U hU hW => ⟨rfl, by rw [hU]; exact hPc, va_K.moved hW.alike hKc, by rw [hU]; exact EX.warm hW (hE.kept (fun a h1 h2 => hS.2.1 a h1 h2)), by rw [hU]; exact SV.moved hW.alike hSV_a⟩⟩ rfl rfl hl.1 rfl (lv_room (Nat.le_of_ble_eq_true rfl)) d_SC_spell_78 ⟨Nat.le_of_ble_eq_true rfl, Nat.le_of_ble_eq_true rfl⟩) (fun r8 hw9 => ?_)
          have hw9 : r8 = nI (tt.getD i 0) := hw9
          obtain rfl := hw9
          have hPc := hP.sub (ws' := [(x, .inr (8, [.int wt, .int (emz wt q (tt.take i)).1, .int (emz wt q (tt.take i)).2]))]) [0] rfl
          have hDc := hD.sub (ws' := [(x, .inr (8, [.int wt, .int (emz wt q (tt.take i)).1, .int (emz wt q (tt.take i)).2]))]) [0] (by decide) rfl
          have hFc := va_free (wc := [(x, .inr (8, [.int wt, .int (emz wt q (tt.take i)).1, .int (emz wt q (tt.take i)).2]))]) hD hS hA [0] rfl
          have hKc := hK.sub (tys' := []) [] rfl
          refine va_callv (va_runV (As := [.int (nI (tt.getD i 0))]) (rest := []) ⟨hx, hb, hml, hown, htb⟩ (k_SC_next l dC dI _ x wt (emz wt q (tt.take i)) (tt.getD i 0) ) (cwV 1 htb (g_V (fun _ h => h) m_1084 m_1081 m_1083 m_1647 m_28) rfl rfl rfl (by decide +kernel) ⟨(by show 1 ≤ (6 + 2 * d); omega), (by show 21 ≤ (150 + 60 * d); omega)⟩) ⟨fun a U g mk q => by obtain ⟨q0, q1, qP, qK, qD⟩ := q; exact ⟨q0, q1, qP, va_K.moved (u := U) (U := U.calling g mk a) (Vm.Alike.refl U.vm) qK, qD⟩, va_recv hK hP (ci := 8) rfl (q0 := 0) rfl, fun U hU hW => ⟨rfl, by rw [hU], by rw [hU]; exact hPc, va_K.moved hW.alike hKc, hDc.weaken (fun _ _ _ _ => trivial)⟩⟩ rfl rfl hl.1 rfl (lv_room (Nat.le_of_ble_eq_true rfl)) d_SC_spell_81 ⟨Nat.le_of_ble_eq_true rfl, Nat.le_of_ble_eq_true rfl⟩) hS (fun q _ h => hFc q h) hFc (fun u10 t H1 locs ht hvm hw12 hB hz1 hk1 hS => ?_)
          obtain ⟨hP1, hK1, hD1⟩ := hB
          rw [ht] at hP1
          have hK1 := va_K.moved hvm.symm hK1
          have hw12 : True := hw12
          obtain ⟨hP, hD⟩ := zz_joinN (pre := [(x, .inr (8, [.int wt, .int (emz wt q (tt.take i)).1, .int (emz wt q (tt.take i)).2]))]) (fz := fz) (wc := [(x, .inr (8, [.int wt, .int (emz wt q (tt.take i)).1, .int (emz wt q (tt.take i)).2]))]) (wr := []) (w1 := [(x, .inr (8, [.int wt, .int (emt wt (emz wt q (tt.take i)) (tt.getD i 0)).1, .int (emt wt (emz wt q (tt.take i)) (tt.getD i 0)).2]))]) hP hD [0] [] rfl rfl (by decide) (by decide) hk1 hFc hP1 hD1
          have hK := (hK.sub (tys' := [(cB, .byte), (cO, .object "java/lang/Object")]) [0, 1] rfl).app hK1
          generalize H1 = H at hP hS ⊢
          have hP : va_P (dC, dI) vwCl ([(x, .inr (8, [.int wt, .int (emt wt (emz wt q (tt.take i)) (tt.getD i 0)).1, .int (emt wt (emz wt q (tt.take i)) (tt.getD i 0)).2]))] ++ fz) H := hP
          have hD : va_D A ([(x, .inr (8, [.int wt, .int (emt wt (emz wt q (tt.take i)) (tt.getD i 0)).1, .int (emt wt (emz wt q (tt.take i)) (tt.getD i 0)).2]))] ++ fz) := hD
          have hK : va_K (dC, dI) vwCl [(cB, .byte), (cO, .object "java/lang/Object")] s := hK
          rw [show (emt wt (emz wt q (tt.take i)) (tt.getD i 0)) = (emz wt q (tt.take (i + 1))) from by rw [take_step 0 h1, emz_app]; rfl] at hP hD
          have hP : va_P (dC, dI) vwCl ([(x, .inr (8, [.int wt, .int (emz wt q (tt.take (i + 1))).1, .int (emz wt q (tt.take (i + 1))).2]))] ++ fz) H := hP
          have hD : va_D A ([(x, .inr (8, [.int wt, .int (emz wt q (tt.take (i + 1))).1, .int (emz wt q (tt.take (i + 1))).2]))] ++ fz) := hD
          refine lv_iinc (k := 0) (v := ((nI i) + Int32.ofInt 1)) hx hb d_SC_spell_84 hl rfl rfl (by decide) rfl (fun ls hl => ?_)
          have hl : lv_has ls 3 [(2, .int ((nI i) + Int32.ofInt 1)), (0, .ref x), (1, .ref a)] := hl
          rw [show nI i + Int32.ofInt 1 = nI (i + 1) from nI_1 _] at hl
          refine lv_goto (tgt := 61) hx hb d_SC_spell_87 rfl ?_
          exact ih (tt.length - (i + 1)) (by omega) (i + 1) H locs ls rfl (by omega) (lv_sub hl [0, 1, 2] rfl) (zz_pickP (pre := [(x, .inr (8, [.int wt, .int (emz wt q (tt.take (i + 1))).1, .int (emz wt q (tt.take (i + 1))).2]))]) (fz := fz) (wc := [(x, .inr (8, [.int wt, .int (emz wt q (tt.take (i + 1))).1, .int (emz wt q (tt.take (i + 1))).2]))]) hP [0] rfl) (zz_pickD (pre := [(x, .inr (8, [.int wt, .int (emz wt q (tt.take (i + 1))).1, .int (emz wt q (tt.take (i + 1))).2]))]) (fz := fz) (wc := [(x, .inr (8, [.int wt, .int (emz wt q (tt.take (i + 1))).1, .int (emz wt q (tt.take (i + 1))).2]))]) hD [0] (by decide) rfl) hS
    exact hloop _ 0 _ _ ls rfl (Nat.zero_le _) (lv_sub hl [0, 1, 2] rfl) (zz_pickP (pre := [(x, .inr (8, [.int wt, .int q.1, .int q.2]))]) (fz := fz) (wc := [(x, .inr (8, [.int wt, .int (emz wt q (tt.take 0)).1, .int (emz wt q (tt.take 0)).2]))]) hP [0] rfl) (zz_pickD (pre := [(x, .inr (8, [.int wt, .int q.1, .int q.2]))]) (fz := fz) (wc := [(x, .inr (8, [.int wt, .int (emz wt q (tt.take 0)).1, .int (emz wt q (tt.take 0)).2]))]) hD [0] (by decide) rfl) hS
  · have hrs0 : rs = [] := by have := hk5 (by omega); rw [this] at hrs; exact List.length_eq_zero_iff.mp hrs
    have hns0 : ns = [] := by have := hk5 (by omega); rw [this] at hns; exact List.length_eq_zero_iff.mp hns
    have htt : txt rows = strT tt := by rw [hrw, hrs0, hns0]; show txt [(k, 0, num, rt, [])] = _; rw [txt_leaf (by omega)]; show (if k ≤ 2 then _ else if k = 3 then _ else if k = 4 then strT rt else _) = _; rw [if_neg (by omega), if_neg (by omega), if_pos hk, htt0]
    rw [hkd] at hc
    refine lv_aload_n hx hb d_SC_spell_0 rfl (lv_at hl 1 rfl) ?_
    obtain ⟨qz1, hz1⟩ := List.getElem?_of_mem (List.mem_append_right [(x, .inr (8, [.int wt, .int q.1, .int q.2]))] hc)
    refine va_get (D := (dC, dI)) (ci := 3) (v := .int 2) (C := R_VA) (T := T_VA) (N := 7) hx hb htb in_VA hown hK hP qz1 hz1 rfl 0 (by decide) (htb _ m_380) (fun _ h9 => h9) rfl d_SC_spell_1 ?_
    refine lv_iconst (v := 2) hx hb d_SC_spell_4 (by decide) ?_
    refine lv_icmp_ne (tgt := 19) hx hb d_SC_spell_5 rfl (fun h9 => absurd (rfl) h9) (fun _ => ?_)
    refine lv_aload_n hx hb d_SC_spell_8 rfl (lv_at hl 0 rfl) ?_
    refine lv_aload_n hx hb d_SC_spell_9 rfl (lv_at hl 1 rfl) ?_
    obtain ⟨qz2, hz2⟩ := List.getElem?_of_mem (List.mem_append_right [(x, .inr (8, [.int wt, .int q.1, .int q.2]))] hc)
    refine va_get (D := (dC, dI)) (ci := 3) (v := .ref tx) (C := R_VA) (T := T_VA) (N := 7) hx hb htb in_VA hown hK hP qz2 hz2 rfl 1 (by decide) (htb _ m_385) (fun _ h9 => h9) rfl d_SC_spell_10 ?_
    have hPc := zz_pickP (pre := [(x, .inr (8, [.int wt, .int q.1, .int q.2]))]) (fz := fz) (wc := [(x, .inr (8, [.int wt, .int q.1, .int q.2]))]) hP [0] rfl
    have hDc := zz_pickD (pre := [(x, .inr (8, [.int wt, .int q.1, .int q.2]))]) (fz := fz) (wc := [(x, .inr (8, [.int wt, .int q.1, .int q.2]))]) hD [0] (by decide) rfl
    have hFc := zz_free (pre := [(x, .inr (8, [.int wt, .int q.1, .int q.2]))]) (fz := fz) (wc := [(x, .inr (8, [.int wt, .int q.1, .int q.2]))]) hD hS hA [0] rfl
    have hKc := hK.sub (tys' := [(cB, .byte)]) [0] rfl
    refine va_callv (va_runV (As := [.ref tx]) (rest := []) ⟨hx, hb, hml, hown, htb⟩ (k_SC_spellString l dC dI _ x wt q tx tt cB em aK aV fz htx) (cwV 1 htb (g_V (fun _ h => h) m_1080 m_1077 m_1079 m_1646 m_28) rfl rfl rfl (by decide +kernel) ⟨(by show 5 ≤ (6 + 2 * d); omega), (by show 108 ≤ (150 + 60 * d); omega)⟩) ⟨fun a U g mk q => by obtain ⟨q0, q1, qP, qK, qD, z0⟩ := q; exact ⟨q0, q1, qP, va_K.moved (u := U) (U := U.calling g mk a) (Vm.Alike.refl U.vm) qK, qD, EX.same (U := U) (U' := U.calling g mk a) rfl z0⟩, va_recv hK hP (ci := 8) rfl (q0 := 0) rfl, fun U hU hW => ⟨rfl, by rw [hU], by rw [hU]; exact hPc, va_K.moved hW.alike hKc, hDc.weaken (fun _ _ _ _ => trivial), by rw [hU]; exact EX.warm hW ((hE.kept (fun a h1 h2 => hS.2.1 a h1 h2)).narrow hFc)⟩⟩ rfl rfl hl.1 rfl (lv_room (Nat.le_of_ble_eq_true rfl)) d_SC_spell_13 ⟨Nat.le_of_ble_eq_true rfl, Nat.le_of_ble_eq_true rfl⟩) hS (fun q _ h => hFc q h) hFc (fun u3 t H1 locs ht hvm hw5 hB hz1 hk1 hS => ?_)
    obtain ⟨hP1, hK1, hD1⟩ := hB
    rw [ht] at hP1
    have hK1 := va_K.moved hvm.symm hK1
    have hw5 : True := hw5
    obtain ⟨hP, hD⟩ := zz_join (pre := [(x, .inr (8, [.int wt, .int q.1, .int q.2]))]) (fz := fz) (wc := [(x, .inr (8, [.int wt, .int q.1, .int q.2]))]) (wr := []) (w1 := ([(x, .inr (8, [.int wt, .int (emz wt q (strT tt)).1, .int (emz wt q (strT tt)).2]))] ++ fz)) hP hD [0] [] rfl rfl (by decide) (by decide) hk1 hFc hP1 hD1
    have hK := (hK.sub (tys' := [(cO, .object "java/lang/Object")]) [1] rfl).app hK1
    generalize H1 = H at hP hS ⊢
    have hP : va_P (dC, dI) vwCl ([(x, .inr (8, [.int wt, .int (emz wt q (strT tt)).1, .int (emz wt q (strT tt)).2]))] ++ fz) H := hP
    have hD : va_D A ([(x, .inr (8, [.int wt, .int (emz wt q (strT tt)).1, .int (emz wt q (strT tt)).2]))] ++ fz) := hD
    have hK : va_K (dC, dI) vwCl [(cO, .object "java/lang/Object"), (cB, .byte)] s := hK
    rw [show (emz wt q (strT tt)) = (emz wt q (txt rows)) from by rw [htt]] at hP hD
    have hP : va_P (dC, dI) vwCl ([(x, .inr (8, [.int wt, .int (emz wt q (txt rows)).1, .int (emz wt q (txt rows)).2]))] ++ fz) H := hP
    have hD : va_D A ([(x, .inr (8, [.int wt, .int (emz wt q (txt rows)).1, .int (emz wt q (txt rows)).2]))] ++ fz) := hD
    refine lv_goto (tgt := 90) hx hb d_SC_spell_16 rfl ?_
    have hP9 := zz_pickP (pre := [(x, .inr (8, [.int wt, .int (emz wt q (txt rows)).1, .int (emz wt q (txt rows)).2]))]) (fz := fz) (wc := [(x, .inr (8, [.int wt, .int (emz wt q (txt rows)).1, .int (emz wt q (txt rows)).2]))]) hP [0] rfl
    have hD9 := zz_pickD (pre := [(x, .inr (8, [.int wt, .int (emz wt q (txt rows)).1, .int (emz wt q (txt rows)).2]))]) (fz := fz) (wc := [(x, .inr (8, [.int wt, .int (emz wt q (txt rows)).1, .int (emz wt q (txt rows)).2]))]) hD [0] (by decide) rfl
    have hK9 := hK.sub (tys' := [(cB, .byte), (cO, .object "java/lang/Object")]) [1, 0] rfl
    rw [hQ]
    refine W.widen (k := 0) (n := 0) (Nat.le_of_ble_eq_true rfl) (Nat.le_of_ble_eq_true rfl) ?_
    exact W.vret hx hb hr (fun t ht hW => ⟨⟨(), rfl, trivial, ⟨by rw [ht]; exact hP9, va_K.moved hW.alike hK9, hD9⟩⟩, hS.F ht⟩) hS.2.2 d_SC_spell_90
  · have hwr : ∀ r ∈ rs, WR d1 r := of_getD (z := []) (fun i hi => (hvl i (by omega)).wr)
    have htt : txt rows = 91 :: (kT 5 false ns rs ++ [93]) := by rw [hrw, hk]; exact txt_branch (by omega) hwr (by decide) (by decide)
    rw [hkd] at hc
    refine lv_aload_n hx hb d_SC_spell_0 rfl (lv_at hl 1 rfl) ?_
    obtain ⟨qz1, hz1⟩ := List.getElem?_of_mem (List.mem_append_right [(x, .inr (8, [.int wt, .int q.1, .int q.2]))] hc)
    refine va_get (D := (dC, dI)) (ci := 3) (v := .int 3) (C := R_VA) (T := T_VA) (N := 7) hx hb htb in_VA hown hK hP qz1 hz1 rfl 0 (by decide) (htb _ m_380) (fun _ h9 => h9) rfl d_SC_spell_1 ?_
    refine lv_iconst (v := 2) hx hb d_SC_spell_4 (by decide) ?_
    refine lv_icmp_ne (tgt := 19) hx hb d_SC_spell_5 rfl (fun _ => ?_) (fun h9 => absurd h9 (by decide))
    refine lv_aload_n hx hb d_SC_spell_19 rfl (lv_at hl 1 rfl) ?_
    obtain ⟨qz2, hz2⟩ := List.getElem?_of_mem (List.mem_append_right [(x, .inr (8, [.int wt, .int q.1, .int q.2]))] hc)
    refine va_get (D := (dC, dI)) (ci := 3) (v := .int 3) (C := R_VA) (T := T_VA) (N := 7) hx hb htb in_VA hown hK hP qz2 hz2 rfl 0 (by decide) (htb _ m_380) (fun _ h9 => h9) rfl d_SC_spell_20 ?_
    refine lv_iconst (v := 3) hx hb d_SC_spell_23 (by decide) ?_
    refine lv_icmp_ne (tgt := 39) hx hb d_SC_spell_24 rfl (fun h9 => absurd (rfl) h9) (fun _ => ?_)
    refine lv_aload_n hx hb d_SC_spell_27 rfl (lv_at hl 0 rfl) ?_
    refine lv_aload_n hx hb d_SC_spell_28 rfl (lv_at hl 1 rfl) ?_
    refine lv_bipush (v := 91) hx hb d_SC_spell_29 (by decide) ?_
    refine lv_bipush (v := 93) hx hb d_SC_spell_31 (by decide) ?_
    have hPc := zz_pickP (pre := [(x, .inr (8, [.int wt, .int q.1, .int q.2]))]) (fz := fz) (wc := [(x, .inr (8, [.int wt, .int q.1, .int q.2]))]) hP [0] rfl
    have hDc := zz_pickD (pre := [(x, .inr (8, [.int wt, .int q.1, .int q.2]))]) (fz := fz) (wc := [(x, .inr (8, [.int wt, .int q.1, .int q.2]))]) hD [0] (by decide) rfl
    have hFc := zz_free (pre := [(x, .inr (8, [.int wt, .int q.1, .int q.2]))]) (fz := fz) (wc := [(x, .inr (8, [.int wt, .int q.1, .int q.2]))]) hD hS hA [0] rfl
    have hKc := hK.sub (tys' := [(cB, .byte), (cO, .object "java/lang/Object")]) [0, 1] rfl
    refine va_callv (va_runV (As := [.ref a, .int 91, .int 93]) (rest := []) ⟨hx, hb, hml, hown, htb⟩ ((HP5 d1 hd1) l dC dI _ x wt q a cB cO 3 tx nu nm pa dp cn xs ns rs em aK aV fz hc hal hns hrs hvl) (cwV 3 htb (g_V (fun _ h => h) m_1090 m_1087 m_1089 m_1648 m_28) rfl rfl rfl (by decide +kernel) ⟨(by show ((7 + 2 * d1) + 1) ≤ (6 + 2 * d); omega), (by show (25 + (180 + 60 * d1)) ≤ (150 + 60 * d); omega)⟩) ⟨fun a U g mk q => by obtain ⟨q0, q1, qP, qK, qD, z0⟩ := q; exact ⟨q0, q1, qP, va_K.moved (u := U) (U := U.calling g mk a) (Vm.Alike.refl U.vm) qK, qD, EX.same (U := U) (U' := U.calling g mk a) rfl z0⟩, va_recv hK hP (ci := 8) rfl (q0 := 0) rfl, fun U hU hW => ⟨rfl, by rw [hU], by rw [hU]; exact hPc, va_K.moved hW.alike hKc, hDc.weaken (fun _ _ _ _ => trivial), by rw [hU]; exact EX.warm hW ((hE.kept (fun a h1 h2 => hS.2.1 a h1 h2)).narrow hFc)⟩⟩ rfl rfl hl.1 rfl (lv_room (Nat.le_of_ble_eq_true rfl)) d_SC_spell_33 ⟨Nat.le_of_ble_eq_true rfl, Nat.le_of_ble_eq_true rfl⟩) hS (fun q _ h => hFc q h) hFc (fun u3 t H1 locs ht hvm hw5 hB hz1 hk1 hS => ?_)
    obtain ⟨hP1, hK1, hD1⟩ := hB
    rw [ht] at hP1
    have hK1 := va_K.moved hvm.symm hK1
    have hw5 : True := hw5
    obtain ⟨hP, hD⟩ := zz_join (pre := [(x, .inr (8, [.int wt, .int q.1, .int q.2]))]) (fz := fz) (wc := [(x, .inr (8, [.int wt, .int q.1, .int q.2]))]) (wr := []) (w1 := ([(x, .inr (8, [.int wt, .int (emz wt q (91 :: (kT 5 false ns rs ++ [93]))).1, .int (emz wt q (91 :: (kT 5 false ns rs ++ [93]))).2]))] ++ fz)) hP hD [0] [] rfl rfl (by decide) (by decide) hk1 hFc hP1 hD1
    have hK := (hK.sub (tys' := []) [] rfl).app hK1
    generalize H1 = H at hP hS ⊢
    have hP : va_P (dC, dI) vwCl ([(x, .inr (8, [.int wt, .int (emz wt q (91 :: (kT 5 false ns rs ++ [93]))).1, .int (emz wt q (91 :: (kT 5 false ns rs ++ [93]))).2]))] ++ fz) H := hP
    have hD : va_D A ([(x, .inr (8, [.int wt, .int (emz wt q (91 :: (kT 5 false ns rs ++ [93]))).1, .int (emz wt q (91 :: (kT 5 false ns rs ++ [93]))).2]))] ++ fz) := hD
    have hK : va_K (dC, dI) vwCl [(cB, .byte), (cO, .object "java/lang/Object")] s := hK
    rw [show (emz wt q (91 :: (kT 5 false ns rs ++ [93]))) = (emz wt q (txt rows)) from by rw [htt]] at hP hD
    have hP : va_P (dC, dI) vwCl ([(x, .inr (8, [.int wt, .int (emz wt q (txt rows)).1, .int (emz wt q (txt rows)).2]))] ++ fz) H := hP
    have hD : va_D A ([(x, .inr (8, [.int wt, .int (emz wt q (txt rows)).1, .int (emz wt q (txt rows)).2]))] ++ fz) := hD
    refine lv_goto (tgt := 90) hx hb d_SC_spell_36 rfl ?_
    have hP9 := zz_pickP (pre := [(x, .inr (8, [.int wt, .int (emz wt q (txt rows)).1, .int (emz wt q (txt rows)).2]))]) (fz := fz) (wc := [(x, .inr (8, [.int wt, .int (emz wt q (txt rows)).1, .int (emz wt q (txt rows)).2]))]) hP [0] rfl
    have hD9 := zz_pickD (pre := [(x, .inr (8, [.int wt, .int (emz wt q (txt rows)).1, .int (emz wt q (txt rows)).2]))]) (fz := fz) (wc := [(x, .inr (8, [.int wt, .int (emz wt q (txt rows)).1, .int (emz wt q (txt rows)).2]))]) hD [0] (by decide) rfl
    have hK9 := hK.sub (tys' := [(cB, .byte), (cO, .object "java/lang/Object")]) [0, 1] rfl
    rw [hQ]
    refine W.widen (k := 0) (n := 0) (Nat.le_of_ble_eq_true rfl) (Nat.le_of_ble_eq_true rfl) ?_
    exact W.vret hx hb hr (fun t ht hW => ⟨⟨(), rfl, trivial, ⟨by rw [ht]; exact hP9, va_K.moved hW.alike hK9, hD9⟩⟩, hS.F ht⟩) hS.2.2 d_SC_spell_90
  · have hwr : ∀ r ∈ rs, WR d1 r := of_getD (z := []) (fun i hi => (hvl i (by omega)).wr)
    have htt : txt rows = 123 :: (kT 6 false ns rs ++ [125]) := by rw [hrw, hk]; exact txt_branch (by omega) hwr (by decide) (by decide)
    rw [hkd] at hc
    refine lv_aload_n hx hb d_SC_spell_0 rfl (lv_at hl 1 rfl) ?_
    obtain ⟨qz1, hz1⟩ := List.getElem?_of_mem (List.mem_append_right [(x, .inr (8, [.int wt, .int q.1, .int q.2]))] hc)
    refine va_get (D := (dC, dI)) (ci := 3) (v := .int 4) (C := R_VA) (T := T_VA) (N := 7) hx hb htb in_VA hown hK hP qz1 hz1 rfl 0 (by decide) (htb _ m_380) (fun _ h9 => h9) rfl d_SC_spell_1 ?_
    refine lv_iconst (v := 2) hx hb d_SC_spell_4 (by decide) ?_
    refine lv_icmp_ne (tgt := 19) hx hb d_SC_spell_5 rfl (fun _ => ?_) (fun h9 => absurd h9 (by decide))
    refine lv_aload_n hx hb d_SC_spell_19 rfl (lv_at hl 1 rfl) ?_
    obtain ⟨qz2, hz2⟩ := List.getElem?_of_mem (List.mem_append_right [(x, .inr (8, [.int wt, .int q.1, .int q.2]))] hc)
    refine va_get (D := (dC, dI)) (ci := 3) (v := .int 4) (C := R_VA) (T := T_VA) (N := 7) hx hb htb in_VA hown hK hP qz2 hz2 rfl 0 (by decide) (htb _ m_380) (fun _ h9 => h9) rfl d_SC_spell_20 ?_
    refine lv_iconst (v := 3) hx hb d_SC_spell_23 (by decide) ?_
    refine lv_icmp_ne (tgt := 39) hx hb d_SC_spell_24 rfl (fun _ => ?_) (fun h9 => absurd h9 (by decide))
    refine lv_aload_n hx hb d_SC_spell_39 rfl (lv_at hl 1 rfl) ?_
    obtain ⟨qz3, hz3⟩ := List.getElem?_of_mem (List.mem_append_right [(x, .inr (8, [.int wt, .int q.1, .int q.2]))] hc)
    refine va_get (D := (dC, dI)) (ci := 3) (v := .int 4) (C := R_VA) (T := T_VA) (N := 7) hx hb htb in_VA hown hK hP qz3 hz3 rfl 0 (by decide) (htb _ m_380) (fun _ h9 => h9) rfl d_SC_spell_40 ?_
    refine lv_iconst (v := 4) hx hb d_SC_spell_43 (by decide) ?_
    refine lv_icmp_ne (tgt := 59) hx hb d_SC_spell_44 rfl (fun h9 => absurd (rfl) h9) (fun _ => ?_)
    refine lv_aload_n hx hb d_SC_spell_47 rfl (lv_at hl 0 rfl) ?_
    refine lv_aload_n hx hb d_SC_spell_48 rfl (lv_at hl 1 rfl) ?_
    refine lv_bipush (v := 123) hx hb d_SC_spell_49 (by decide) ?_
    refine lv_bipush (v := 125) hx hb d_SC_spell_51 (by decide) ?_
    have hPc := zz_pickP (pre := [(x, .inr (8, [.int wt, .int q.1, .int q.2]))]) (fz := fz) (wc := [(x, .inr (8, [.int wt, .int q.1, .int q.2]))]) hP [0] rfl
    have hDc := zz_pickD (pre := [(x, .inr (8, [.int wt, .int q.1, .int q.2]))]) (fz := fz) (wc := [(x, .inr (8, [.int wt, .int q.1, .int q.2]))]) hD [0] (by decide) rfl
    have hFc := zz_free (pre := [(x, .inr (8, [.int wt, .int q.1, .int q.2]))]) (fz := fz) (wc := [(x, .inr (8, [.int wt, .int q.1, .int q.2]))]) hD hS hA [0] rfl
    have hKc := hK.sub (tys' := [(cB, .byte), (cO, .object "java/lang/Object")]) [0, 1] rfl
    refine va_callv (va_runV (As := [.ref a, .int 123, .int 125]) (rest := []) ⟨hx, hb, hml, hown, htb⟩ ((HP6 d1 hd1) l dC dI _ x wt q a cB cO 4 tx nu nm pa dp cn xs ns rs em aK aV fz hc hal hns hrs hvl) (cwV 3 htb (g_V (fun _ h => h) m_1090 m_1087 m_1089 m_1648 m_28) rfl rfl rfl (by decide +kernel) ⟨(by show ((7 + 2 * d1) + 1) ≤ (6 + 2 * d); omega), (by show (25 + (180 + 60 * d1)) ≤ (150 + 60 * d); omega)⟩) ⟨fun a U g mk q => by obtain ⟨q0, q1, qP, qK, qD, z0⟩ := q; exact ⟨q0, q1, qP, va_K.moved (u := U) (U := U.calling g mk a) (Vm.Alike.refl U.vm) qK, qD, EX.same (U := U) (U' := U.calling g mk a) rfl z0⟩, va_recv hK hP (ci := 8) rfl (q0 := 0) rfl, fun U hU hW => ⟨rfl, by rw [hU], by rw [hU]; exact hPc, va_K.moved hW.alike hKc, hDc.weaken (fun _ _ _ _ => trivial), by rw [hU]; exact EX.warm hW ((hE.kept (fun a h1 h2 => hS.2.1 a h1 h2)).narrow hFc)⟩⟩ rfl rfl hl.1 rfl (lv_room (Nat.le_of_ble_eq_true rfl)) d_SC_spell_53 ⟨Nat.le_of_ble_eq_true rfl, Nat.le_of_ble_eq_true rfl⟩) hS (fun q _ h => hFc q h) hFc (fun u4 t H1 locs ht hvm hw6 hB hz1 hk1 hS => ?_)
    obtain ⟨hP1, hK1, hD1⟩ := hB
    rw [ht] at hP1
    have hK1 := va_K.moved hvm.symm hK1
    have hw6 : True := hw6
    obtain ⟨hP, hD⟩ := zz_join (pre := [(x, .inr (8, [.int wt, .int q.1, .int q.2]))]) (fz := fz) (wc := [(x, .inr (8, [.int wt, .int q.1, .int q.2]))]) (wr := []) (w1 := ([(x, .inr (8, [.int wt, .int (emz wt q (123 :: (kT 6 false ns rs ++ [125]))).1, .int (emz wt q (123 :: (kT 6 false ns rs ++ [125]))).2]))] ++ fz)) hP hD [0] [] rfl rfl (by decide) (by decide) hk1 hFc hP1 hD1
    have hK := (hK.sub (tys' := []) [] rfl).app hK1
    generalize H1 = H at hP hS ⊢
    have hP : va_P (dC, dI) vwCl ([(x, .inr (8, [.int wt, .int (emz wt q (123 :: (kT 6 false ns rs ++ [125]))).1, .int (emz wt q (123 :: (kT 6 false ns rs ++ [125]))).2]))] ++ fz) H := hP
    have hD : va_D A ([(x, .inr (8, [.int wt, .int (emz wt q (123 :: (kT 6 false ns rs ++ [125]))).1, .int (emz wt q (123 :: (kT 6 false ns rs ++ [125]))).2]))] ++ fz) := hD
    have hK : va_K (dC, dI) vwCl [(cB, .byte), (cO, .object "java/lang/Object")] s := hK
    rw [show (emz wt q (123 :: (kT 6 false ns rs ++ [125]))) = (emz wt q (txt rows)) from by rw [htt]] at hP hD
    have hP : va_P (dC, dI) vwCl ([(x, .inr (8, [.int wt, .int (emz wt q (txt rows)).1, .int (emz wt q (txt rows)).2]))] ++ fz) H := hP
    have hD : va_D A ([(x, .inr (8, [.int wt, .int (emz wt q (txt rows)).1, .int (emz wt q (txt rows)).2]))] ++ fz) := hD
    refine lv_goto (tgt := 90) hx hb d_SC_spell_56 rfl ?_
    have hP9 := zz_pickP (pre := [(x, .inr (8, [.int wt, .int (emz wt q (txt rows)).1, .int (emz wt q (txt rows)).2]))]) (fz := fz) (wc := [(x, .inr (8, [.int wt, .int (emz wt q (txt rows)).1, .int (emz wt q (txt rows)).2]))]) hP [0] rfl
    have hD9 := zz_pickD (pre := [(x, .inr (8, [.int wt, .int (emz wt q (txt rows)).1, .int (emz wt q (txt rows)).2]))]) (fz := fz) (wc := [(x, .inr (8, [.int wt, .int (emz wt q (txt rows)).1, .int (emz wt q (txt rows)).2]))]) hD [0] (by decide) rfl
    have hK9 := hK.sub (tys' := [(cB, .byte), (cO, .object "java/lang/Object")]) [0, 1] rfl
    rw [hQ]
    refine W.widen (k := 0) (n := 0) (Nat.le_of_ble_eq_true rfl) (Nat.le_of_ble_eq_true rfl) ?_
    exact W.vret hx hb hr (fun t ht hW => ⟨⟨(), rfl, trivial, ⟨by rw [ht]; exact hP9, va_K.moved hW.alike hK9, hD9⟩⟩, hS.F ht⟩) hS.2.2 d_SC_spell_90
theorem all_SC_spell : ∀ d, C_SC_spell d
  | 0 => fun l dC dI sz x wt q a nn rows cB cO em aK aV fz hv => hv.elim
  | d + 1 => fun l dC dI sz x wt q a nn rows cB cO em aK aV fz hv => k_SC_spell l dC dI sz (d + 1) x wt q a nn rows cB cO em aK aV fz hv
      (fun d1 h => by
        obtain rfl : d = d1 := by omega
        exact fun l dC dI sz x wt q a cB cO kd tx0 nu0 nm0 pa dp0 cn0 xs ns rs em aK aV fz hc hal hns hrs hvl => k_SC_spellParts5 l dC dI sz d x wt q a cB cO kd tx0 nu0 nm0 pa dp0 cn0 xs ns rs em aK aV fz hc hal hns hrs hvl (all_SC_spell d))
      (fun d1 h => by
        obtain rfl : d = d1 := by omega
        exact fun l dC dI sz x wt q a cB cO kd tx0 nu0 nm0 pa dp0 cn0 xs ns rs em aK aV fz hc hal hns hrs hvl => k_SC_spellParts6 l dC dI sz d x wt q a cB cO kd tx0 nu0 nm0 pa dp0 cn0 xs ns rs em aK aV fz hc hal hns hrs hvl (all_SC_spell d))
