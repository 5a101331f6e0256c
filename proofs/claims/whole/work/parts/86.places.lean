/-- a value's cell and its parts, by its rows -/
theorem VT.opn {cB cO : ClassId} {em : Nat} {aK : Nat → Nat} {d : Nat} {tl : va_W} {a : Nat} {nn : List Nat} {rows : List Row} (h : VT cB cO em aK (d + 1) tl a nn rows) : ∃ (kd : Int32) (tx : Nat) (nu : Int64) (nm pa : Nat) (dp cn : Int32) (tt : List Nat) (k : Nat) (num : Int) (rt : List Nat) (xs : List Nat) (ns : List (List Nat)),
    VAc a kd tx nu nm pa dp cn ∈ tl ∧ TX cB aK tl tx tt ∧ TX cB aK tl nm nn ∧ ALz cO em tl pa xs ∧ HDr kd tt nu k num rt ∧ ns.length = xs.length ∧ (ksR rows).length = xs.length ∧ (k < 5 → xs = []) ∧ (∀ i, i < xs.length → VT cB cO em aK d tl (xs.getD i 0) (ns.getD i []) ((ksR rows).getD i [])) ∧ hdK rows = k ∧ (k = 6 → ksN rows = ns) ∧ dp = nI (dpt rows) ∧ cn = nI rows.length ∧ rows = (k, 0, num, rt, []) :: kidRows k ns (ksR rows) ∧ xs.length ≤ 160 := by
  obtain ⟨kd, tx, nu, nm, pa, dp, cn, tt, k, num, rt, xs, ns, rs, h1, h2, h3, h4, h5, h6, h7, h8, h9, h10, h11, h12⟩ := h
  have hws : ∀ r ∈ rs, WR d r := of_getD (z := []) (fun i hi => (h9 i (by omega)).wr)
  have e1 : ksR rows = rs := by rw [h10]; exact ksR_kid (by omega) hws
  refine ⟨kd, tx, nu, nm, pa, dp, cn, tt, k, num, rt, xs, ns, h1, h2, h3, h4, h5, h6, by rw [e1]; exact h7, h8, by rw [e1]; exact h9, by rw [h10]; rfl, fun h => ?_, h11, h12, by rw [e1]; exact h10, h4.1⟩
  subst h
  rw [h10]; exact ksN_kid (by omega) hws
theorem VT.succ {cB cO : ClassId} {em : Nat} {aK : Nat → Nat} {d : Nat} {tl : va_W} {a : Nat} {nn : List Nat} {rows : List Row} (h : VT cB cO em aK d tl a nn rows) : ∃ d1, d = d1 + 1 := by
  cases d with
  | zero => exact h.elim
  | succ d => exact ⟨d, rfl⟩
theorem HDr.kind {kd : Int32} {tt : List Nat} {nu : Int64} {k : Nat} {num : Int} {tx : List Nat} (h : HDr kd tt nu k num tx) : (kd = 4 ↔ k = 6) ∧ (kd = 3 ↔ k = 5) ∧ (kd = 2 ↔ k = 4) ∧ (kd = 1 ↔ k = 3) := by
  rcases h with ⟨rfl, h, _⟩ | ⟨rfl, rfl, _⟩ | ⟨rfl, rfl, _⟩ | ⟨rfl, rfl, _⟩ | ⟨rfl, rfl, _⟩
  · refine ⟨⟨fun h => absurd h (by decide), fun h => by omega⟩, ⟨fun h => absurd h (by decide), fun h => by omega⟩, ⟨fun h => absurd h (by decide), fun h => by omega⟩, ⟨fun h => absurd h (by decide), fun h => by omega⟩⟩
  all_goals decide
theorem nix_step {tx : List Nat} : ∀ {ns : List (List Nat)} {i : Nat}, i < ns.length → (∀ q, q < i → ns.getD q [] ≠ tx) → ns.getD i [] = tx → nix tx ns = some i
  | [], i, h, _, _ => by simp at h
  | n :: ns, 0, _, _, h => by rw [nix, if_pos (by simpa using h)]
  | n :: ns, i + 1, hi, hq, h => by
    rw [nix, if_neg (by have := hq 0 (by omega); simpa using this), nix_step (i := i) (by simpa using hi) (fun q hq2 => by have := hq (q + 1) (by omega); simpa using this) (by simpa using h)]
    rfl
theorem nix_no {tx : List Nat} {ns : List (List Nat)} (hq : ∀ q, q < ns.length → ns.getD q [] ≠ tx) : nix tx ns = none := nix_none.mpr (fun hm => by
  obtain ⟨q, hq2, he⟩ := List.mem_iff_getElem.mp hm
  exact hq q hq2 (by rw [List.getD_eq_getElem?_getD, List.getElem?_eq_getElem hq2]; exact he))
/-- a member's place -/
def mpl (rows : List Row) (s : List Nat) : Option Nat := if hdK rows = 6 then nix s (ksN rows) else none
def oI (o : Option Nat) : Int32 := match o with
  | none => -1
  | some t => nI t
theorem nI_nn (n : Nat) (h : n < 2 ^ 31) : (0 : Int32) ≤ nI n := (nI_leI (a := 0) (by decide) h).mpr (Nat.zero_le _)
set_option maxHeartbeats 1000000 in
set_option maxRecDepth 100000 in
/-- placeOfMember(name) -/
theorem k_VA_placeOfMember (l : Launch) (dC : Nat → ClassId) (dI : Nat → Nat → Nat) (sz : Nat) (a : Nat) (d : Nat) (nn : List Nat) (rows : List Row) (b : Nat) (sx : List Nat) (cB : ClassId) (cO : ClassId) (em : Nat) (aK : Nat → Nat) (aV : Nat → Nat) (fz : va_W) (hv : VT cB cO em aK (d + 1) fz a nn rows) (hb9 : TX cB aK fz b sx) : Met l y_VA_placeOfMember ws_VA_placeOfMember ({ frames := 3, cells := 0, slots := 0, locals := 64 }) (va_Pc [.ref a, .ref b] (fun U => U.heap.size = sz ∧ va_P (dC, dI) vwCl ([] ++ fz) U.heap ∧ va_K (dC, dI) vwCl [(cB, .byte), (cO, .object "java/lang/Object")] U ∧ va_D (fun _ => True) ([] ++ fz) ∧ EX em aK aV (va_A ([] ++ fz) sz) U U.heap)) (va_Qi (fun (r : Int32) (u : Unit) => r = oI (mpl rows sx)) (fun u t => va_P (dC, dI) vwCl ([] ++ fz) t.heap ∧ va_K (dC, dI) vwCl [(cB, .byte), (cO, .object "java/lang/Object")] t ∧ va_D (va_A ([] ++ fz) sz) ([] ++ fz)) (va_A ([] ++ fz) sz)) 0 0 (va_A ([] ++ fz) sz) := by
  refine Met.ofW (cc := c_VA_placeOfMember) (maxL := 3) (ret := (some .int)) (by decide) rfl ?_
  intro p e s m args below meth c s₁ B hml hv
  obtain ⟨hargs, hsz, hP, hK, hD0, hE⟩ := hv
  rw [show entryFrame m args 3 = entryFrame m ([.ref a, .ref b]).toArray 3 by rw [hargs]]
  have hx := B.exec
  have hb := B.bytes
  have hr := B.returns
  have hts := atoms_spec (ws := ws_VA_placeOfMember) B.pre
  have htb := fun w (h : w ∈ TBL) => hts w (List.mem_cons_of_mem _ h)
  have hown : s.vm.findClass R_VA = some m.cls := findClass_of_methodNamed B.named
  have hlocks := B.notSynchronized
  subst hsz
  have hD := hD0.self (sz := s.heap.size)
  generalize hAe : va_A ([] ++ fz) s.heap.size = A at hD hE ⊢
  have hA : ∀ q : Nat, s.heap.size ≤ q → A q := fun q h => by rw [← hAe]; exact Or.inr h
  have hS : va_S A s.heap s.heap [] := va_S.rf
  have hP : va_P (dC, dI) vwCl ([] ++ fz) s.heap := hP
  have hl := lv_entry ([.ref a, .ref b]) (n := 3) (Nat.le_of_ble_eq_true rfl)
  rw [lg_entry_eq]
  generalize (lg_sl ([.ref a, .ref b]) ++ List.replicate (3 - (lg_sl ([.ref a, .ref b])).length) Slot.unset).toArray = ls at hl ⊢
  have hl : lv_has ls 3 [(0, .ref a), (1, .ref b)] := hl
  refine zz_nQ (fun Q hQ => ?_)
  obtain ⟨kd, tx, nu, nm, pa, dp, cn, tt, kk, num, rt, xs, ns, hc, htx, hnm, hal, hhd, hnl, hrl, hk5, hvl, hhk, hns, hdp, hcn, hrw, h160⟩ := hv.opn
  refine lv_aload_n hx hb d_VA_placeOfMember_0 rfl (lv_at hl 0 rfl) ?_
  obtain ⟨qz1, hz1⟩ := List.getElem?_of_mem (List.mem_append_right [] hc)
  refine va_get (D := (dC, dI)) (ci := 3) (v := .int kd) (C := R_VA) (T := T_VA) (N := 7) hx hb htb in_VA hown hK hP qz1 hz1 rfl 0 (by decide) (htb _ m_378) (fun _ h9 => h9) rfl d_VA_placeOfMember_1 ?_
  refine lv_iconst (v := 4) hx hb d_VA_placeOfMember_4 (by decide) ?_
  refine lv_icmp_eq (tgt := 10) hx hb d_VA_placeOfMember_5 rfl (fun h1 => ?_) (fun h1 => ?_)
  · have h1 : kk = 6 := (hhd.kind.1).mp h1
    have hks := hns h1
    have hmp : mpl rows sx = nix sx ns := by rw [mpl, if_pos (by rw [hhk]; exact h1), hks]
    refine lv_iconst (v := 0) hx hb d_VA_placeOfMember_10 (by decide) ?_
    refine lv_istore_n hx hb d_VA_placeOfMember_11 rfl hl (by decide) rfl (fun ls hl => ?_)
    have hl : lv_has ls 3 [(2, .int 0), (0, .ref a), (1, .ref b)] := hl
    have hloop : ∀ (k9 : Nat) (i : Nat) (H : Heap) (locs : List Loc) (ls : Array Slot), xs.length - i = k9 → (i ≤ xs.length) → (∀ q, q < i → ns.getD q [] ≠ sx) → lv_has ls 3 [(2, .int (nI i)), (0, .ref a), (1, .ref b)] → va_P (dC, dI) vwCl ([] ++ fz) H → va_D A ([] ++ fz) → va_S A s.heap H locs → W p l e (headSpec ws_VA_placeOfMember ({ frames := 3, cells := 0, slots := 0, locals := 64 })).room s m args below meth c H locs 0 0 Q (F0 m 12 ls []) := by
      intro k9
      induction k9 using Nat.strongRecOn with
      | ind k9 ih =>
        intro i H locs ls hk9 hi1 hi2 hl hP hD hS
        refine lv_iload_n hx hb d_VA_placeOfMember_12 rfl (lv_at hl 0 rfl) ?_
        refine lv_aload_n hx hb d_VA_placeOfMember_13 rfl (lv_at hl 1 rfl) ?_
        obtain ⟨qz2, hz2⟩ := List.getElem?_of_mem (List.mem_append_right [] hc)
        refine va_get (D := (dC, dI)) (ci := 3) (v := .ref pa) (C := R_VA) (T := T_VA) (N := 7) hx hb htb in_VA hown hK hP qz2 hz2 rfl 4 (by decide) (htb _ m_393) (fun _ h9 => h9) rfl d_VA_placeOfMember_14 ?_
        have hPc : va_P (dC, dI) vwCl ([] ++ fz) _ := zz_tlP (pre := []) (tl := fz) hP
        have hKc := hK.sub (tys' := []) [] rfl
        refine vp_callSi (W.runV (As := []) (rest := [.int (nI i)]) ⟨hx, hb, hml, hown, htb⟩ (z_AL_size l dC dI pa xs cO em fz hal) (cwV 0 htb (g_V (fun _ h => h) m_486 m_483 m_484 m_485 m_8) rfl rfl rfl (by decide +kernel) ⟨Nat.le_of_ble_eq_true rfl, Nat.le_of_ble_eq_true rfl⟩) ⟨fun a U g mk q => by obtain ⟨q0, qP, qK⟩ := q; exact ⟨q0, qP, va_K.moved (u := U) (U := U.calling g mk a) (Vm.Alike.refl U.vm) qK⟩, (hal).recv hK hP (fun q hq => List.mem_append_right _ hq), fun U hU hW => ⟨rfl, by rw [hU]; exact hPc, va_K.moved hW.alike hKc⟩⟩ rfl rfl hl.1 rfl (lv_room (Nat.le_of_ble_eq_true rfl)) d_VA_placeOfMember_17 ⟨Nat.le_of_ble_eq_true rfl, Nat.le_of_ble_eq_true rfl⟩) (fun r3 hw4 => ?_)
        have hw4 : r3 = nI xs.length := hw4
        obtain rfl := hw4
        refine lv_icmp_ge (tgt := 52) hx hb d_VA_placeOfMember_20 rfl (fun h2 => ?_) (fun h2 => ?_)
        · have h2 : xs.length ≤ i := (nI_leI (by omega) (by omega)).mp h2
          refine lv_iconst (v := (-1)) hx hb d_VA_placeOfMember_52 (by decide) ?_
          have hP9 := zz_pickP (pre := []) (fz := fz) (wc := []) hP [] rfl
          have hD9 := zz_pickD (pre := []) (fz := fz) (wc := []) hD [] (by decide) rfl
          have hK9 := hK.sub (tys' := [(cB, .byte), (cO, .object "java/lang/Object")]) [0, 1] rfl
          rw [hQ]
          refine W.widen (k := 0) (n := 0) (Nat.le_of_ble_eq_true rfl) (Nat.le_of_ble_eq_true rfl) ?_
          exact W.iret (v := (-1)) hx hb hr (fun t ht hW => ⟨⟨(-1), (), rfl, by rw [hmp, nix_no (fun q hq => hi2 q (by omega))]; rfl, ⟨by rw [ht]; exact hP9, va_K.moved hW.alike hK9, hD9⟩⟩, hS.F ht⟩) hS.2.2 d_VA_placeOfMember_53
        · have h2 : i < xs.length := Nat.not_le.mp (fun h => h2 ((nI_leI (by omega) (by omega)).mpr h))
          obtain ⟨kd0, tx0, nu0, nm0, pa0, dp0, cn0, hc0, hn0⟩ := (hvl i h2).cellN
          refine lv_aload_n hx hb d_VA_placeOfMember_23 rfl (lv_at hl 1 rfl) ?_
          obtain ⟨qz5, hz5⟩ := List.getElem?_of_mem (List.mem_append_right [] hc)
          refine va_get (D := (dC, dI)) (ci := 3) (v := .ref pa) (C := R_VA) (T := T_VA) (N := 7) hx hb htb in_VA hown hK hP qz5 hz5 rfl 4 (by decide) (htb _ m_393) (fun _ h9 => h9) rfl d_VA_placeOfMember_24 ?_
          refine lv_iload_n hx hb d_VA_placeOfMember_27 rfl (lv_at hl 0 rfl) ?_
          have hPc : va_P (dC, dI) vwCl ([] ++ fz) _ := zz_tlP (pre := []) (tl := fz) hP
          have hKc := hK.sub (tys' := [(cO, .object "java/lang/Object")]) [1] rfl
          refine va_csq (W.runV (As := [.int (nI i)]) (rest := []) ⟨hx, hb, hml, hown, htb⟩ (z_AL_get l dC dI pa xs cO em i fz hal h2) (cwV 1 htb (g_V (fun _ h => h) m_490 m_487 m_488 m_489 m_8) rfl rfl rfl (by decide +kernel) ⟨Nat.le_of_ble_eq_true rfl, Nat.le_of_ble_eq_true rfl⟩) ⟨fun a U g mk q => by obtain ⟨q0, qP, qK⟩ := q; exact ⟨q0, qP, va_K.moved (u := U) (U := U.calling g mk a) (Vm.Alike.refl U.vm) qK⟩, (hal).recv hK hP (fun q hq => List.mem_append_right _ hq), fun U hU hW => ⟨rfl, by rw [hU]; exact hPc, va_K.moved hW.alike hKc⟩⟩ rfl rfl hl.1 rfl (lv_room (Nat.le_of_ble_eq_true rfl)) d_VA_placeOfMember_28 ⟨Nat.le_of_ble_eq_true rfl, Nat.le_of_ble_eq_true rfl⟩) (fun r6 hw7 => ?_)
          have hw7 : r6 = some (xs.getD i 0) := hw7
          obtain rfl := hw7
          refine W.eq (g2 := F0 m 31 ls [.ref (xs.getD i 0)]) rfl ?_
          refine va_castY (C := "PatchStore$Value") hx hb hown (htb _ m_499) (nw_14 hE) (zz_recv hK hP (ci := 3) rfl (List.mem_append_right _ hc0)) d_VA_placeOfMember_31 ?_
          obtain ⟨qz8, hz8⟩ := List.getElem?_of_mem (List.mem_append_right [] hc0)
          refine va_get (D := (dC, dI)) (ci := 3) (v := .ref nm0) (C := R_VA) (T := T_VA) (N := 7) hx hb htb in_VA hown hK hP qz8 hz8 rfl 3 (by decide) (htb _ m_389) (fun _ h9 => h9) rfl d_VA_placeOfMember_34 ?_
          refine lv_aload_n hx hb d_VA_placeOfMember_37 rfl (lv_at hl 2 rfl) ?_
          obtain ⟨v_a, hSV_a⟩ := hn0.sv htb hE (fun q h1 h2 => hS.2.1 q h1 h2) hK hP (fun q hq => List.mem_append_right _ hq) 0 rfl
          obtain ⟨v_b, hSV_b⟩ := hb9.sv htb hE (fun q h1 h2 => hS.2.1 q h1 h2) hK hP (fun q hq => List.mem_append_right _ hq) 0 rfl
          have hPc : va_P (dC, dI) vwCl [] _ := hP.sub (ws' := []) [] rfl
          have hKc := hK.sub (tys' := []) [] rfl
          refine vp_callSi (W.runV (As := [.ref b]) (rest := []) ⟨hx, hb, hml, hown, htb⟩ (q_ST_equals l dC dI nm0 b v_a v_b (ns.getD i []) sx em aK aV A ) (cwV 1 htb (g_V (fun _ h => h) m_510 m_598 m_508 m_509 m_4) rfl rfl rfl (by decide +kernel) ⟨Nat.le_of_ble_eq_true rfl, Nat.le_of_ble_eq_true rfl⟩) ⟨fun a U g mk q => by obtain ⟨q0, qP, qK, z0, z1, z2⟩ := q; exact ⟨q0, qP, va_K.moved (u := U) (U := U.calling g mk a) (Vm.Alike.refl U.vm) qK, EX.same (U := U) (U' := U.calling g mk a) rfl z0, SV.moved (Vm.Alike.refl U.vm) z1, SV.moved (Vm.Alike.refl U.vm) z2⟩, hSV_a.recv, fun U hU hW => ⟨rfl, by rw [hU]; exact hPc, va_K.moved hW.alike hKc, by rw [hU]; exact EX.warm hW (hE.kept (fun a h1 h2 => hS.2.1 a h1 h2)), by rw [hU]; exact SV.moved hW.alike hSV_a, by rw [hU]; exact SV.moved hW.alike hSV_b⟩⟩ rfl rfl hl.1 rfl (lv_room (Nat.le_of_ble_eq_true rfl)) d_VA_placeOfMember_38 ⟨Nat.le_of_ble_eq_true rfl, Nat.le_of_ble_eq_true rfl⟩) (fun r9 hw10 => ?_)
          have hw10 : (r9 = 1 ∧ (ns.getD i []) = sx) ∨ (r9 = 0 ∧ (ns.getD i []) ≠ sx) := hw10
          refine lv_if_eq (tgt := 46) hx hb d_VA_placeOfMember_41 rfl (fun h3 => ?_) (fun h3 => ?_)
          · have hne : ns.getD i [] ≠ sx := by rcases hw10 with ⟨h, _⟩ | ⟨_, h⟩; exact absurd (h.symm.trans h3) (by decide); exact h
            refine lv_iinc (k := 0) (v := ((nI i) + Int32.ofInt 1)) hx hb d_VA_placeOfMember_46 hl rfl rfl (by decide) rfl (fun ls hl => ?_)
            have hl : lv_has ls 3 [(2, .int ((nI i) + Int32.ofInt 1)), (0, .ref a), (1, .ref b)] := hl
            rw [show nI i + Int32.ofInt 1 = nI (i + 1) from nI_1 _] at hl
            refine lv_goto (tgt := 12) hx hb d_VA_placeOfMember_49 rfl ?_
            exact ih (xs.length - (i + 1)) (by omega) (i + 1) H locs ls rfl (by omega) (fun q hq => by rcases Nat.lt_succ_iff_lt_or_eq.mp hq with h | rfl; exact hi2 q h; exact hne) (lv_sub hl [0, 1, 2] rfl) (zz_pickP (pre := []) (fz := fz) (wc := []) hP [] rfl) (zz_pickD (pre := []) (fz := fz) (wc := []) hD [] (by decide) rfl) hS
          · have heq : ns.getD i [] = sx := by rcases hw10 with ⟨_, h⟩ | ⟨h, _⟩; exact h; exact absurd h h3
            refine lv_iload_n hx hb d_VA_placeOfMember_44 rfl (lv_at hl 0 rfl) ?_
            have hP9 := zz_pickP (pre := []) (fz := fz) (wc := []) hP [] rfl
            have hD9 := zz_pickD (pre := []) (fz := fz) (wc := []) hD [] (by decide) rfl
            have hK9 := hK.sub (tys' := [(cB, .byte), (cO, .object "java/lang/Object")]) [0, 1] rfl
            rw [hQ]
            refine W.widen (k := 0) (n := 0) (Nat.le_of_ble_eq_true rfl) (Nat.le_of_ble_eq_true rfl) ?_
            exact W.iret (v := (nI i)) hx hb hr (fun t ht hW => ⟨⟨(nI i), (), rfl, by rw [hmp, nix_step (by omega) hi2 heq]; rfl, ⟨by rw [ht]; exact hP9, va_K.moved hW.alike hK9, hD9⟩⟩, hS.F ht⟩) hS.2.2 d_VA_placeOfMember_45
    exact hloop _ 0 _ _ ls rfl (Nat.zero_le _) (fun q hq => absurd hq (Nat.not_lt_zero _)) (lv_sub hl [0, 1, 2] rfl) (zz_pickP (pre := []) (fz := fz) (wc := []) hP [] rfl) (zz_pickD (pre := []) (fz := fz) (wc := []) hD [] (by decide) rfl) hS
  · have h1 : ¬ kk = 6 := fun h => h1 ((hhd.kind.1).mpr h)
    refine lv_iconst (v := (-1)) hx hb d_VA_placeOfMember_8 (by decide) ?_
    have hP9 := zz_pickP (pre := []) (fz := fz) (wc := []) hP [] rfl
    have hD9 := zz_pickD (pre := []) (fz := fz) (wc := []) hD [] (by decide) rfl
    have hK9 := hK.sub (tys' := [(cB, .byte), (cO, .object "java/lang/Object")]) [0, 1] rfl
    rw [hQ]
    refine W.widen (k := 0) (n := 0) (Nat.le_of_ble_eq_true rfl) (Nat.le_of_ble_eq_true rfl) ?_
    exact W.iret (v := (-1)) hx hb hr (fun t ht hW => ⟨⟨(-1), (), rfl, by rw [mpl, if_neg (by rw [hhk]; exact h1)]; rfl, ⟨by rw [ht]; exact hP9, va_K.moved hW.alike hK9, hD9⟩⟩, hS.F ht⟩) hS.2.2 d_VA_placeOfMember_9
set_option maxHeartbeats 1000000 in
set_option maxRecDepth 100000 in
/-- placeOfElement(k) -/
theorem k_VA_placeOfElement (l : Launch) (dC : Nat → ClassId) (dI : Nat → Nat → Nat) (sz : Nat) (a : Nat) (d : Nat) (nn : List Nat) (rows : List Row) (v : Int32) (cB : ClassId) (cO : ClassId) (em : Nat) (aK : Nat → Nat) (aV : Nat → Nat) (fz : va_W) (hv : VT cB cO em aK (d + 1) fz a nn rows) : Met l y_VA_placeOfElement ws_VA_placeOfElement ({ frames := 1, cells := 0, slots := 0, locals := 20 }) (va_Pc [.ref a, .int v] (fun U => U.heap.size = sz ∧ va_P (dC, dI) vwCl ([] ++ fz) U.heap ∧ va_K (dC, dI) vwCl [(cB, .byte), (cO, .object "java/lang/Object")] U ∧ va_D (fun _ => True) ([] ++ fz) ∧ EX em aK aV (va_A ([] ++ fz) sz) U U.heap)) (va_Qi (fun (r : Int32) (u : Unit) => r = if hdK rows = 5 ∧ ¬ v < 0 ∧ v.toNatClampNeg < (ksR rows).length then v else -1) (fun u t => va_P (dC, dI) vwCl ([] ++ fz) t.heap ∧ va_K (dC, dI) vwCl [(cB, .byte), (cO, .object "java/lang/Object")] t ∧ va_D (va_A ([] ++ fz) sz) ([] ++ fz)) (va_A ([] ++ fz) sz)) 0 0 (va_A ([] ++ fz) sz) := by
  refine Met.ofW (cc := c_VA_placeOfElement) (maxL := 2) (ret := (some .int)) (by decide) rfl ?_
  intro p e s m args below meth c s₁ B hml hv
  obtain ⟨rfl, hsz, hP, hK, hD0, hE⟩ := hv
  have hx := B.exec
  have hb := B.bytes
  have hr := B.returns
  have hts := atoms_spec (ws := ws_VA_placeOfElement) B.pre
  have htb := fun w (h : w ∈ TBL) => hts w (List.mem_cons_of_mem _ h)
  have hown : s.vm.findClass R_VA = some m.cls := findClass_of_methodNamed B.named
  have hlocks := B.notSynchronized
  subst hsz
  have hD := hD0.self (sz := s.heap.size)
  generalize hAe : va_A ([] ++ fz) s.heap.size = A at hD hE ⊢
  have hA : ∀ q : Nat, s.heap.size ≤ q → A q := fun q h => by rw [← hAe]; exact Or.inr h
  have hS : va_S A s.heap s.heap [] := va_S.rf
  have hP : va_P (dC, dI) vwCl ([] ++ fz) s.heap := hP
  have hl := lv_entry ([.ref a, .int v]) (n := 2) (Nat.le_of_ble_eq_true rfl)
  rw [lg_entry_eq]
  generalize (lg_sl ([.ref a, .int v]) ++ List.replicate (2 - (lg_sl ([.ref a, .int v])).length) Slot.unset).toArray = ls at hl ⊢
  have hl : lv_has ls 2 [(0, .ref a), (1, .int v)] := hl
  obtain ⟨kd, tx, nu, nm, pa, dp, cn, tt, kk, num, rt, xs, ns, hc, htx, hnm, hal, hhd, hnl, hrl, hk5, hvl, hhk, hns, hdp, hcn, hrw, h160⟩ := hv.opn
  refine lv_aload_n hx hb d_VA_placeOfElement_0 rfl (lv_at hl 0 rfl) ?_
  obtain ⟨qz1, hz1⟩ := List.getElem?_of_mem (List.mem_append_right [] hc)
  refine va_get (D := (dC, dI)) (ci := 3) (v := .int kd) (C := R_VA) (T := T_VA) (N := 7) hx hb htb in_VA hown hK hP qz1 hz1 rfl 0 (by decide) (htb _ m_378) (fun _ h9 => h9) rfl d_VA_placeOfElement_1 ?_
  refine lv_iconst (v := 3) hx hb d_VA_placeOfElement_4 (by decide) ?_
  refine lv_icmp_ne (tgt := 27) hx hb d_VA_placeOfElement_5 rfl (fun h1 => ?_) (fun h1 => ?_)
  · have h1 : ¬ kk = 5 := fun h => h1 ((hhd.kind.2.1).mpr h)
    refine lv_iconst (v := (-1)) hx hb d_VA_placeOfElement_27 (by decide) ?_
    have hP9 := zz_pickP (pre := []) (fz := fz) (wc := []) hP [] rfl
    have hD9 := zz_pickD (pre := []) (fz := fz) (wc := []) hD [] (by decide) rfl
    have hK9 := hK.sub (tys' := [(cB, .byte), (cO, .object "java/lang/Object")]) [0, 1] rfl
    refine W.widen (k := 0) (n := 0) (Nat.le_of_ble_eq_true rfl) (Nat.le_of_ble_eq_true rfl) ?_
    exact W.iret (v := (-1)) hx hb hr (fun t ht hW => ⟨⟨(-1), (), rfl, by rw [if_neg (fun h => h1 (hhk.symm.trans h.1))], ⟨by rw [ht]; exact hP9, va_K.moved hW.alike hK9, hD9⟩⟩, hS.F ht⟩) hS.2.2 d_VA_placeOfElement_28
  · have h1 : kk = 5 := (hhd.kind.2.1).mp h1
    refine lv_iload_n hx hb d_VA_placeOfElement_8 rfl (lv_at hl 1 rfl) ?_
    refine lv_if_lt (tgt := 27) hx hb d_VA_placeOfElement_9 rfl (fun h2 => ?_) (fun h2 => ?_)
    · refine lv_iconst (v := (-1)) hx hb d_VA_placeOfElement_27 (by decide) ?_
      have hP9 := zz_pickP (pre := []) (fz := fz) (wc := []) hP [] rfl
      have hD9 := zz_pickD (pre := []) (fz := fz) (wc := []) hD [] (by decide) rfl
      have hK9 := hK.sub (tys' := [(cB, .byte), (cO, .object "java/lang/Object")]) [0, 1] rfl
      refine W.widen (k := 0) (n := 0) (Nat.le_of_ble_eq_true rfl) (Nat.le_of_ble_eq_true rfl) ?_
      exact W.iret (v := (-1)) hx hb hr (fun t ht hW => ⟨⟨(-1), (), rfl, by rw [if_neg (fun h => h.2.1 h2)], ⟨by rw [ht]; exact hP9, va_K.moved hW.alike hK9, hD9⟩⟩, hS.F ht⟩) hS.2.2 d_VA_placeOfElement_28
    · refine lv_iload_n hx hb d_VA_placeOfElement_12 rfl (lv_at hl 1 rfl) ?_
      refine lv_aload_n hx hb d_VA_placeOfElement_13 rfl (lv_at hl 0 rfl) ?_
      obtain ⟨qz2, hz2⟩ := List.getElem?_of_mem (List.mem_append_right [] hc)
      refine va_get (D := (dC, dI)) (ci := 3) (v := .ref pa) (C := R_VA) (T := T_VA) (N := 7) hx hb htb in_VA hown hK hP qz2 hz2 rfl 4 (by decide) (htb _ m_393) (fun _ h9 => h9) rfl d_VA_placeOfElement_14 ?_
      have hPc : va_P (dC, dI) vwCl ([] ++ fz) _ := zz_tlP (pre := []) (tl := fz) hP
      have hKc := hK.sub (tys' := []) [] rfl
      refine vp_callSi (W.runV (As := []) (rest := [.int v]) ⟨hx, hb, hml, hown, htb⟩ (z_AL_size l dC dI pa xs cO em fz hal) (cwV 0 htb (g_V (fun _ h => h) m_486 m_483 m_484 m_485 m_8) rfl rfl rfl (by decide +kernel) ⟨Nat.le_of_ble_eq_true rfl, Nat.le_of_ble_eq_true rfl⟩) ⟨fun a U g mk q => by obtain ⟨q0, qP, qK⟩ := q; exact ⟨q0, qP, va_K.moved (u := U) (U := U.calling g mk a) (Vm.Alike.refl U.vm) qK⟩, (hal).recv hK hP (fun q hq => List.mem_append_right _ hq), fun U hU hW => ⟨rfl, by rw [hU]; exact hPc, va_K.moved hW.alike hKc⟩⟩ rfl rfl hl.1 rfl (lv_room (Nat.le_of_ble_eq_true rfl)) d_VA_placeOfElement_17 ⟨Nat.le_of_ble_eq_true rfl, Nat.le_of_ble_eq_true rfl⟩) (fun r3 hw4 => ?_)
      have hw4 : r3 = nI xs.length := hw4
      obtain rfl := hw4
      refine lv_icmp_ge (tgt := 27) hx hb d_VA_placeOfElement_20 rfl (fun h3 => ?_) (fun h3 => ?_)
      · have h3 : ¬ v.toNatClampNeg < xs.length := ge_of_nI h2 (Int32.not_lt.mpr h3) (by omega)
        refine lv_iconst (v := (-1)) hx hb d_VA_placeOfElement_27 (by decide) ?_
        have hP9 := zz_pickP (pre := []) (fz := fz) (wc := []) hP [] rfl
        have hD9 := zz_pickD (pre := []) (fz := fz) (wc := []) hD [] (by decide) rfl
        have hK9 := hK.sub (tys' := [(cB, .byte), (cO, .object "java/lang/Object")]) [0, 1] rfl
        refine W.widen (k := 0) (n := 0) (Nat.le_of_ble_eq_true rfl) (Nat.le_of_ble_eq_true rfl) ?_
        exact W.iret (v := (-1)) hx hb hr (fun t ht hW => ⟨⟨(-1), (), rfl, by rw [if_neg (fun h => h3 (by have := h.2.2; omega))], ⟨by rw [ht]; exact hP9, va_K.moved hW.alike hK9, hD9⟩⟩, hS.F ht⟩) hS.2.2 d_VA_placeOfElement_28
      · have h3 := lt_of_nI h2 h3 (by omega)
        refine lv_iload_n hx hb d_VA_placeOfElement_23 rfl (lv_at hl 1 rfl) ?_
        refine lv_goto (tgt := 28) hx hb d_VA_placeOfElement_24 rfl ?_
        have hP9 := zz_pickP (pre := []) (fz := fz) (wc := []) hP [] rfl
        have hD9 := zz_pickD (pre := []) (fz := fz) (wc := []) hD [] (by decide) rfl
        have hK9 := hK.sub (tys' := [(cB, .byte), (cO, .object "java/lang/Object")]) [0, 1] rfl
        refine W.widen (k := 0) (n := 0) (Nat.le_of_ble_eq_true rfl) (Nat.le_of_ble_eq_true rfl) ?_
        exact W.iret (v := v) hx hb hr (fun t ht hW => ⟨⟨v, (), rfl, by rw [if_pos ⟨hhk.trans h1, h2, by rw [hrl]; exact h3.1⟩], ⟨by rw [ht]; exact hP9, va_K.moved hW.alike hK9, hD9⟩⟩, hS.F ht⟩) hS.2.2 d_VA_placeOfElement_28
set_option maxHeartbeats 1000000 in
set_option maxRecDepth 100000 in
/-- member(name) -/
theorem k_VA_member (l : Launch) (dC : Nat → ClassId) (dI : Nat → Nat → Nat) (sz : Nat) (a : Nat) (d : Nat) (nn : List Nat) (rows : List Row) (b : Nat) (sx : List Nat) (cB : ClassId) (cO : ClassId) (em : Nat) (aK : Nat → Nat) (aV : Nat → Nat) (fz : va_W) (hv : VT cB cO em aK (d + 1) fz a nn rows) (hb9 : TX cB aK fz b sx) : Met l y_VA_member ws_VA_member ({ frames := 4, cells := 0, slots := 0, locals := 86 }) (va_Pc [.ref a, .ref b] (fun U => U.heap.size = sz ∧ va_P (dC, dI) vwCl ([] ++ fz) U.heap ∧ va_K (dC, dI) vwCl [(cB, .byte), (cO, .object "java/lang/Object")] U ∧ va_D (fun _ => True) ([] ++ fz) ∧ EX em aK aV (va_A ([] ++ fz) sz) U U.heap)) (va_Qq (fun (r : Option Nat) (u : Unit) => (r = none ∧ mpl rows sx = none) ∨ ∃ t8 y8, r = some y8 ∧ mpl rows sx = some t8 ∧ t8 < (ksR rows).length ∧ VT cB cO em aK d fz y8 sx ((ksR rows).getD t8 [])) (fun u t => va_P (dC, dI) vwCl ([] ++ fz) t.heap ∧ va_K (dC, dI) vwCl [(cB, .byte), (cO, .object "java/lang/Object")] t ∧ va_D (va_A ([] ++ fz) sz) ([] ++ fz)) (va_A ([] ++ fz) sz)) 0 0 (va_A ([] ++ fz) sz) := by
  refine Met.ofW (cc := c_VA_member) (maxL := 3) (ret := (some (.object "PatchStore$Value"))) (by decide) rfl ?_
  intro p e s m args below meth c s₁ B hml hv
  obtain ⟨hargs, hsz, hP, hK, hD0, hE⟩ := hv
  rw [show entryFrame m args 3 = entryFrame m ([.ref a, .ref b]).toArray 3 by rw [hargs]]
  have hx := B.exec
  have hb := B.bytes
  have hr := B.returns
  have hts := atoms_spec (ws := ws_VA_member) B.pre
  have htb := fun w (h : w ∈ TBL) => hts w (List.mem_cons_of_mem _ h)
  have hown : s.vm.findClass R_VA = some m.cls := findClass_of_methodNamed B.named
  have hlocks := B.notSynchronized
  subst hsz
  have hD := hD0.self (sz := s.heap.size)
  generalize hAe : va_A ([] ++ fz) s.heap.size = A at hD hE ⊢
  have hA : ∀ q : Nat, s.heap.size ≤ q → A q := fun q h => by rw [← hAe]; exact Or.inr h
  have hS : va_S A s.heap s.heap [] := va_S.rf
  have hP : va_P (dC, dI) vwCl ([] ++ fz) s.heap := hP
  have hl := lv_entry ([.ref a, .ref b]) (n := 3) (Nat.le_of_ble_eq_true rfl)
  rw [lg_entry_eq]
  generalize (lg_sl ([.ref a, .ref b]) ++ List.replicate (3 - (lg_sl ([.ref a, .ref b])).length) Slot.unset).toArray = ls at hl ⊢
  have hl : lv_has ls 3 [(0, .ref a), (1, .ref b)] := hl
  refine zz_nQ (fun Q hQ => ?_)
  refine lv_aload_n hx hb d_VA_member_0 rfl (lv_at hl 0 rfl) ?_
  refine lv_aload_n hx hb d_VA_member_1 rfl (lv_at hl 1 rfl) ?_
  obtain ⟨kd, tx, nu, nm, pa, dp, cn, tt, kk, num, rt, xs, ns, hc, htx, hnm, hal, hhd, hnl, hrl, hk5, hvl, hhk, hns, hdp, hcn, hrw, h160⟩ := (id hv : VT cB cO em aK (d + 1) fz a nn rows).opn
  have hPc := zz_pickP (pre := []) (fz := fz) (wc := []) hP [] rfl
  have hDc := zz_pickD (pre := []) (fz := fz) (wc := []) hD [] (by decide) rfl
  have hFc := zz_free (pre := []) (fz := fz) (wc := []) hD hS hA [] rfl
  have hKc := hK.sub (tys' := [(cB, .byte), (cO, .object "java/lang/Object")]) [0, 1] rfl
  refine va_calli (va_runV (As := [.ref b]) (rest := []) ⟨hx, hb, hml, hown, htb⟩ (k_VA_placeOfMember l dC dI _ a d nn rows b sx cB cO em aK aV fz hv hb9) (cwV 1 htb (g_V (fun _ h => h) m_597 m_594 m_595 m_596 m_18) rfl rfl rfl (by decide +kernel) ⟨Nat.le_of_ble_eq_true rfl, Nat.le_of_ble_eq_true rfl⟩) ⟨fun a U g mk q => by obtain ⟨q0, q1, qP, qK, qD, z0⟩ := q; exact ⟨q0, q1, qP, va_K.moved (u := U) (U := U.calling g mk a) (Vm.Alike.refl U.vm) qK, qD, EX.same (U := U) (U' := U.calling g mk a) rfl z0⟩, zz_recv hK hP (ci := 3) rfl (List.mem_append_right _ hc), fun U hU hW => ⟨rfl, by rw [hU], by rw [hU]; exact hPc, va_K.moved hW.alike hKc, hDc.weaken (fun _ _ _ _ => trivial), by rw [hU]; exact EX.warm hW ((hE.kept (fun a h1 h2 => hS.2.1 a h1 h2)).narrow hFc)⟩⟩ rfl rfl hl.1 rfl (lv_room (Nat.le_of_ble_eq_true rfl)) d_VA_member_2 ⟨Nat.le_of_ble_eq_true rfl, Nat.le_of_ble_eq_true rfl⟩) hS (fun q _ h => hFc q h) hFc (fun r2 u1 t H1 locs ht hvm hw3 hB hz1 hk1 hS => ?_)
  obtain ⟨hP1, hK1, hD1⟩ := hB
  rw [ht] at hP1
  have hK1 := va_K.moved hvm.symm hK1
  have hw3 : r2 = oI (mpl rows sx) := hw3
  obtain ⟨hP, hD⟩ := zz_join (pre := []) (fz := fz) (wc := []) (wr := []) (w1 := ([] ++ fz)) hP hD [] [] rfl rfl (by decide) (by decide) hk1 hFc hP1 hD1
  have hK := (hK.sub (tys' := []) [] rfl).app hK1
  generalize H1 = H at hP hS ⊢
  have hP : va_P (dC, dI) vwCl ([] ++ fz) H := hP
  have hD : va_D A ([] ++ fz) := hD
  have hK : va_K (dC, dI) vwCl [(cB, .byte), (cO, .object "java/lang/Object")] s := hK
  obtain rfl := hw3
  rcases hm : mpl rows sx with _ | t0
  · refine W.eq (g2 := F0 m 5 ls [.int (-1)]) rfl ?_
    have hm2 : oI (mpl rows sx) = -1 := by rw [hm]; rfl
    refine lv_istore_n hx hb d_VA_member_5 rfl hl (by decide) rfl (fun ls hl => ?_)
    have hl : lv_has ls 3 [(2, .int (-1)), (0, .ref a), (1, .ref b)] := hl
    refine lv_iload_n hx hb d_VA_member_6 rfl (lv_at hl 0 rfl) ?_
    refine lv_if_ge (tgt := 14) hx hb d_VA_member_7 rfl (fun h9 => absurd h9 (by decide)) (fun _ => ?_)
    refine lv_null hx hb d_VA_member_10 ?_
    refine lv_goto (tgt := 25) hx hb d_VA_member_11 rfl ?_
    have hP9 := zz_pickP (pre := []) (fz := fz) (wc := []) hP [] rfl
    have hD9 := zz_pickD (pre := []) (fz := fz) (wc := []) hD [] (by decide) rfl
    have hK9 := hK.sub (tys' := [(cB, .byte), (cO, .object "java/lang/Object")]) [0, 1] rfl
    rw [hQ]
    refine W.widen (k := 0) (n := 0) (Nat.le_of_ble_eq_true rfl) (Nat.le_of_ble_eq_true rfl) ?_
    exact W.aret (v := .null) hx hb hr (Or.inl ⟨_, rfl⟩) (Or.inl rfl) (fun t ht hW => ⟨⟨none, (), rfl, Or.inl ⟨rfl, hm⟩, ⟨by rw [ht]; exact hP9, va_K.moved hW.alike hK9, hD9⟩⟩, hS.F ht⟩) hS.2.2 d_VA_member_25
  · have hm2 : kk = 6 ∧ nix sx ns = some t0 := by unfold mpl at hm; split at hm; exact ⟨hhk.symm.trans ‹_›, by rw [← hns (hhk.symm.trans ‹_›)]; exact hm⟩; cases hm
    have ht0 := nix_lt hm2.2
    have htl : t0 < xs.length := by omega
    have hvt := hvl t0 htl
    rw [ht0.2] at hvt
    obtain ⟨kd0, tx0, nu0, nm0, pa0, dp0, cn0, hc0, hn0⟩ := hvt.cellN
    refine W.eq (g2 := F0 m 5 ls [.int (nI t0)]) rfl ?_
    refine lv_istore_n hx hb d_VA_member_5 rfl hl (by decide) rfl (fun ls hl => ?_)
    have hl : lv_has ls 3 [(2, .int (nI t0)), (0, .ref a), (1, .ref b)] := hl
    refine lv_iload_n hx hb d_VA_member_6 rfl (lv_at hl 0 rfl) ?_
    refine lv_if_ge (tgt := 14) hx hb d_VA_member_7 rfl (fun _ => ?_) (fun h9 => absurd (nI_nn t0 (by omega)) h9)
    refine lv_aload_n hx hb d_VA_member_14 rfl (lv_at hl 1 rfl) ?_
    obtain ⟨qz5, hz5⟩ := List.getElem?_of_mem (List.mem_append_right [] hc)
    refine va_get (D := (dC, dI)) (ci := 3) (v := .ref pa) (C := R_VA) (T := T_VA) (N := 7) hx hb htb in_VA hown hK hP qz5 hz5 rfl 4 (by decide) (htb _ m_393) (fun _ h9 => h9) rfl d_VA_member_15 ?_
    refine lv_iload_n hx hb d_VA_member_18 rfl (lv_at hl 0 rfl) ?_
    have hPc : va_P (dC, dI) vwCl ([] ++ fz) _ := zz_tlP (pre := []) (tl := fz) hP
    have hKc := hK.sub (tys' := [(cO, .object "java/lang/Object")]) [1] rfl
    refine va_csq (W.runV (As := [.int (nI t0)]) (rest := []) ⟨hx, hb, hml, hown, htb⟩ (z_AL_get l dC dI pa xs cO em t0 fz hal htl) (cwV 1 htb (g_V (fun _ h => h) m_490 m_487 m_488 m_489 m_8) rfl rfl rfl (by decide +kernel) ⟨Nat.le_of_ble_eq_true rfl, Nat.le_of_ble_eq_true rfl⟩) ⟨fun a U g mk q => by obtain ⟨q0, qP, qK⟩ := q; exact ⟨q0, qP, va_K.moved (u := U) (U := U.calling g mk a) (Vm.Alike.refl U.vm) qK⟩, (hal).recv hK hP (fun q hq => List.mem_append_right _ hq), fun U hU hW => ⟨rfl, by rw [hU]; exact hPc, va_K.moved hW.alike hKc⟩⟩ rfl rfl hl.1 rfl (lv_room (Nat.le_of_ble_eq_true rfl)) d_VA_member_19 ⟨Nat.le_of_ble_eq_true rfl, Nat.le_of_ble_eq_true rfl⟩) (fun r6 hw7 => ?_)
    have hw7 : r6 = some (xs.getD t0 0) := hw7
    obtain rfl := hw7
    refine W.eq (g2 := F0 m 22 ls [.ref (xs.getD t0 0)]) rfl ?_
    refine va_castY (C := "PatchStore$Value") hx hb hown (htb _ m_499) (nw_14 hE) (zz_recv hK hP (ci := 3) rfl (List.mem_append_right _ hc0)) d_VA_member_22 ?_
    have hP9 := zz_pickP (pre := []) (fz := fz) (wc := []) hP [] rfl
    have hD9 := zz_pickD (pre := []) (fz := fz) (wc := []) hD [] (by decide) rfl
    have hK9 := hK.sub (tys' := [(cB, .byte), (cO, .object "java/lang/Object")]) [0, 1] rfl
    rw [hQ]
    refine W.widen (k := 0) (n := 0) (Nat.le_of_ble_eq_true rfl) (Nat.le_of_ble_eq_true rfl) ?_
    exact W.aret (v := .ref (xs.getD t0 0)) hx hb hr (Or.inl ⟨_, rfl⟩) (Or.inr ⟨_, rfl⟩) (fun t ht hW => ⟨⟨(some (xs.getD t0 0)), (), rfl, Or.inr ⟨t0, _, rfl, hm, by omega, hvt⟩, ⟨by rw [ht]; exact hP9, va_K.moved hW.alike hK9, hD9⟩⟩, hS.F ht⟩) hS.2.2 d_VA_member_25
