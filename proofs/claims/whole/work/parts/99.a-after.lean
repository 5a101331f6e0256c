/-- what an operation does: a code (0 done, 6 lost, 7 unlike) and the document behind it -/
def edR (o : Option (List Row)) : Nat × List Row := match o with
  | none => (6, [])
  | some x => (0, x)
def aftR (o : Opn) (w : List Row) : Nat × List Row :=
  if o.1 = 4 then (match trg o.2.2.1 w with
    | none => (6, [])
    | some m => if bgn o.2.1 o.2.2.1 = true then (if bgn o.2.2.1 o.2.1 = true then (0, w) else (6, [])) else (match edt 2 [] o.2.2.1 w with
      | none => (6, [])
      | some r => edR (edt 1 m o.2.1 r)))
  else if o.1 = 5 then (match trg o.2.2.1 w with
    | none => (6, [])
    | some m => edR (edt 1 m o.2.1 w))
  else if o.1 = 6 then (match trg o.2.1 w with
    | none => (6, [])
    | some m => if smR 30 m o.2.2.2 = true then (0, w) else (7, []))
  else edR (edt o.1 o.2.2.2 o.2.1 w)
theorem edt_rm_len {v : List Row} : ∀ (ss : List (List Nat)) (d : Nat) (w w' : List Row), WR d w → edt 2 v ss w = some w' → w'.length ≤ w.length
  | [], d, w, w', hw, h => by rw [edt, if_pos rfl] at h; cases h
  | s :: ss, 0, w, w', hw, h => hw.elim
  | s :: ss, d + 1, w, w', hw, h => by
    rw [edt] at h
    split at h
    · unfold ed1 at h
      rw [if_neg (by decide)] at h
      obtain ⟨t, ht, e⟩ := Option.map_eq_some_iff.mp h
      rw [if_pos rfl] at e
      obtain ⟨q, A, B, e1, _, e2⟩ := wr_cut hw (stp_lt ht).1
      have h9 := congrArg List.length e1
      rw [← e, e2]
      simp only [List.length_cons, List.length_append] at h9 ⊢
      omega
    · cases hs : stp w s with
      | none => rw [hs] at h; cases h
      | some t =>
        rw [hs, Option.bind_some] at h
        obtain ⟨p, hp, e⟩ := Option.map_eq_some_iff.mp h
        obtain ⟨q, A, B, e1, _, hx, _, _, e3⟩ := wr_around hw (stp_lt hs).1
        have hl := edt_rm_len ss d _ p hx hp
        have hw2 := wr_edt (e := 0) (Or.inl rfl) ss d _ p hx hp
        have h9 := congrArg List.length e1
        rw [← e, e3 p (wr_setNm hw2)]
        simp only [List.length_cons, List.length_append, setNm_len, lift_len] at h9 ⊢
        omega
set_option maxHeartbeats 1000000 in
set_option maxRecDepth 100000 in
/-- afterTest(null, value) -/
theorem k_PA_afterTestN (l : Launch) (dC : Nat → ClassId) (dI : Nat → Nat → Nat) (sz : Nat) (x : Nat) (lim : Nat) (rm : Nat) (y : Nat) (yv : Nat) : Met l y_PA_afterTest ws_PA_afterTest ({ frames := 0, cells := 0, slots := 0, locals := 0 }) (va_Pc [.ref x, .null, .ref yv] (fun U => U.heap.size = sz ∧ va_P (dC, dI) vwCl [(x, .inr (6, [.int (nI lim), .int (nI rm), .ref y, .int 6]))] U.heap ∧ va_K (dC, dI) vwCl [] U ∧ va_D (fun _ => True) [(x, .inr (6, [.int (nI lim), .int (nI rm), .ref y, .int 6]))])) (va_Qq (fun (r : Option Nat) (u : Unit) => r = none) (fun u t => va_P (dC, dI) vwCl [(x, .inr (6, [.int (nI lim), .int (nI rm), .ref y, .int 6]))] t.heap ∧ va_K (dC, dI) vwCl [] t ∧ va_D (va_A [(x, .inr (6, [.int (nI lim), .int (nI rm), .ref y, .int 6]))] sz) [(x, .inr (6, [.int (nI lim), .int (nI rm), .ref y, .int 6]))]) (va_A [(x, .inr (6, [.int (nI lim), .int (nI rm), .ref y, .int 6]))] sz)) 0 0 (va_A [(x, .inr (6, [.int (nI lim), .int (nI rm), .ref y, .int 6]))] sz) := by
  refine Met.ofW (cc := c_PA_afterTest) (maxL := 3) (ret := (some (.object "PatchStore$Value"))) (by decide) rfl ?_
  intro p e s m args below meth c s₁ B hml hv
  obtain ⟨rfl, hsz, hP, hK, hD0⟩ := hv
  have hx := B.exec
  have hb := B.bytes
  have hr := B.returns
  have hts := atoms_spec (ws := ws_PA_afterTest) B.pre
  have htb := fun w (h : w ∈ TBL) => hts w (List.mem_cons_of_mem _ h)
  have hown : s.vm.findClass R_PA = some m.cls := findClass_of_methodNamed B.named
  have hlocks := B.notSynchronized
  subst hsz
  have hD := hD0.self (sz := s.heap.size)
  generalize hAe : va_A [(x, .inr (6, [.int (nI lim), .int (nI rm), .ref y, .int 6]))] s.heap.size = A at hD ⊢
  have hA : ∀ q : Nat, s.heap.size ≤ q → A q := fun q h => by rw [← hAe]; exact Or.inr h
  have hS : va_S A s.heap s.heap [] := va_S.rf
  have hP : va_P (dC, dI) vwCl [(x, .inr (6, [.int (nI lim), .int (nI rm), .ref y, .int 6]))] s.heap := hP
  have hl := lv_entry ([.ref x, .null, .ref yv]) (n := 3) (Nat.le_of_ble_eq_true rfl)
  rw [lg_entry_eq]
  generalize (lg_sl ([.ref x, .null, .ref yv]) ++ List.replicate (3 - (lg_sl ([.ref x, .null, .ref yv])).length) Slot.unset).toArray = ls at hl ⊢
  have hl : lv_has ls 3 [(0, .ref x), (1, .null), (2, .ref yv)] := hl
  refine lv_aload_nN hx hb d_PA_afterTest_0 rfl (lv_at hl 1 rfl) ?_
  refine lv_ifnonnullN hx hb d_PA_afterTest_1 ?_
  refine lv_null hx hb d_PA_afterTest_4 ?_
  have hP9 := hP.sub (ws' := [(x, .inr (6, [.int (nI lim), .int (nI rm), .ref y, .int 6]))]) [0] rfl
  have hD9 := hD.sub (ws' := [(x, .inr (6, [.int (nI lim), .int (nI rm), .ref y, .int 6]))]) [0] (by decide) rfl
  have hK9 := hK.sub (tys' := []) [] rfl
  refine W.widen (k := 0) (n := 0) (Nat.le_of_ble_eq_true rfl) (Nat.le_of_ble_eq_true rfl) ?_
  exact W.aret (v := .null) hx hb hr (Or.inl ⟨_, rfl⟩) (Or.inl rfl) (fun t ht hW => ⟨⟨none, (), rfl, rfl, ⟨by rw [ht]; exact hP9, va_K.moved hW.alike hK9, hD9⟩⟩, hS.F ht⟩) hS.2.2 d_PA_afterTest_5
set_option maxHeartbeats 1000000 in
set_option maxRecDepth 100000 in
/-- afterTest(tested, value) -/
theorem k_PA_afterTest (l : Launch) (dC : Nat → ClassId) (dI : Nat → Nat → Nat) (sz : Nat) (x : Nat) (lim : Nat) (rm : Nat) (y : Nat) (yt : Nat) (nt : List Nat) (wt : List Row) (yv : Nat) (nv : List Nat) (vr : List Row) (cB : ClassId) (cO : ClassId) (em : Nat) (aK : Nat → Nat) (aV : Nat → Nat) (fz : va_W) (hvt : VT cB cO em aK 30 fz yt nt wt) (hvv : VT cB cO em aK 30 fz yv nv vr) : Met l y_PA_afterTest ws_PA_afterTest ({ frames := 75, cells := 0, slots := 0, locals := 2100 }) (va_Pc [.ref x, .ref yt, .ref yv] (fun U => U.heap.size = sz ∧ va_P (dC, dI) vwCl ([(x, .inr (6, [.int (nI lim), .int (nI rm), .ref y, .int 6]))] ++ fz) U.heap ∧ va_K (dC, dI) vwCl [(cB, .byte), (cO, .object "java/lang/Object")] U ∧ va_D (fun _ => True) ([(x, .inr (6, [.int (nI lim), .int (nI rm), .ref y, .int 6]))] ++ fz) ∧ EX em aK aV (va_A ([(x, .inr (6, [.int (nI lim), .int (nI rm), .ref y, .int 6]))] ++ fz) sz) U U.heap)) (va_Qq (fun (r : Option Nat) (u : Int32) => (r = some y ∧ smR 30 wt vr = true ∧ u = 6) ∨ (r = none ∧ ¬ smR 30 wt vr = true ∧ u = 7)) (fun u t => va_P (dC, dI) vwCl ([(x, .inr (6, [.int (nI lim), .int (nI rm), .ref y, .int u]))] ++ fz) t.heap ∧ va_K (dC, dI) vwCl [(cB, .byte), (cO, .object "java/lang/Object")] t ∧ va_D (va_A ([(x, .inr (6, [.int (nI lim), .int (nI rm), .ref y, .int 6]))] ++ fz) sz) ([(x, .inr (6, [.int (nI lim), .int (nI rm), .ref y, .int u]))] ++ fz)) (va_A ([(x, .inr (6, [.int (nI lim), .int (nI rm), .ref y, .int 6]))] ++ fz) sz)) 0 0 (va_A ([(x, .inr (6, [.int (nI lim), .int (nI rm), .ref y, .int 6]))] ++ fz) sz) := by
  refine Met.ofW (cc := c_PA_afterTest) (maxL := 3) (ret := (some (.object "PatchStore$Value"))) (by decide) rfl ?_
  intro p e s m args below meth c s₁ B hml hv
  obtain ⟨rfl, hsz, hP, hK, hD0, hE⟩ := hv
  have hx := B.exec
  have hb := B.bytes
  have hr := B.returns
  have hts := atoms_spec (ws := ws_PA_afterTest) B.pre
  have htb := fun w (h : w ∈ TBL) => hts w (List.mem_cons_of_mem _ h)
  have hown : s.vm.findClass R_PA = some m.cls := findClass_of_methodNamed B.named
  have hlocks := B.notSynchronized
  subst hsz
  have hD := hD0.self (sz := s.heap.size)
  generalize hAe : va_A ([(x, .inr (6, [.int (nI lim), .int (nI rm), .ref y, .int 6]))] ++ fz) s.heap.size = A at hD hE ⊢
  have hA : ∀ q : Nat, s.heap.size ≤ q → A q := fun q h => by rw [← hAe]; exact Or.inr h
  have hS : va_S A s.heap s.heap [] := va_S.rf
  have hP : va_P (dC, dI) vwCl ([(x, .inr (6, [.int (nI lim), .int (nI rm), .ref y, .int 6]))] ++ fz) s.heap := hP
  have hl := lv_entry ([.ref x, .ref yt, .ref yv]) (n := 3) (Nat.le_of_ble_eq_true rfl)
  rw [lg_entry_eq]
  generalize (lg_sl ([.ref x, .ref yt, .ref yv]) ++ List.replicate (3 - (lg_sl ([.ref x, .ref yt, .ref yv])).length) Slot.unset).toArray = ls at hl ⊢
  have hl : lv_has ls 3 [(0, .ref x), (1, .ref yt), (2, .ref yv)] := hl
  refine lv_aload_n hx hb d_PA_afterTest_0 rfl (lv_at hl 1 rfl) ?_
  refine lv_ifnonnull (tgt := 6) hx hb d_PA_afterTest_1 rfl ?_
  refine lv_aload_n hx hb d_PA_afterTest_6 rfl (lv_at hl 1 rfl) ?_
  refine lv_aload_n hx hb d_PA_afterTest_7 rfl (lv_at hl 2 rfl) ?_
  have hPc := zz_pickP (pre := [(x, .inr (6, [.int (nI lim), .int (nI rm), .ref y, .int 6]))]) (fz := fz) (wc := []) hP [] rfl
  have hDc := zz_pickD (pre := [(x, .inr (6, [.int (nI lim), .int (nI rm), .ref y, .int 6]))]) (fz := fz) (wc := []) hD [] (by decide) rfl
  have hFc := zz_free (pre := [(x, .inr (6, [.int (nI lim), .int (nI rm), .ref y, .int 6]))]) (fz := fz) (wc := []) hD hS hA [] rfl
  have hKc := hK.sub (tys' := [(cB, .byte), (cO, .object "java/lang/Object")]) [0, 1] rfl
  refine va_calli (va_runSN (As := [.ref yt, .ref yv]) (rest := []) ⟨hx, hb, hml, hown, htb⟩ (all_VA_same 30 l dC dI _ yt yv nt nv wt vr cB cO em aK aV fz hvt hvv (by decide)) ⟨va_cnB 2 htb (g_all (fun _ h => h) m_836) rfl rfl rfl (nw_5 hE) (htb _ m_18) (by decide +kernel) ⟨(by show ((10 + 2 * 30) + 1) ≤ 75; omega), (by show (24 + (200 + 60 * 30)) ≤ 2100; omega)⟩, (htb _ m_835), trivial⟩ ⟨fun a U g mk q => by obtain ⟨q0, q1, qP, qK, qD, z0⟩ := q; exact ⟨q0, q1, qP, va_K.moved (u := U) (U := U.calling g mk a) (Vm.Alike.refl U.vm) qK, qD, EX.same (U := U) (U' := U.calling g mk a) rfl z0⟩, fun U hU hW => ⟨rfl, by rw [hU], by rw [hU]; exact hPc, va_K.moved hW.alike hKc, hDc.weaken (fun _ _ _ _ => trivial), by rw [hU]; exact EX.warm hW ((hE.kept (fun a h1 h2 => hS.2.1 a h1 h2)).narrow hFc)⟩⟩ rfl rfl hl.1 rfl (lv_room (Nat.le_of_ble_eq_true rfl)) d_PA_afterTest_8 ⟨Nat.le_of_ble_eq_true rfl, Nat.le_of_ble_eq_true rfl⟩) hS (fun q _ h => hFc q h) hFc (fun r2 u1 t H1 locs ht hvm hw3 hB hz1 hk1 hS => ?_)
  obtain ⟨hP1, hK1, hD1⟩ := hB
  rw [ht] at hP1
  have hK1 := va_K.moved hvm.symm hK1
  have hw3 : r2 = bI (smR 30 wt vr) := hw3
  obtain ⟨hP, hD⟩ := zz_join (pre := [(x, .inr (6, [.int (nI lim), .int (nI rm), .ref y, .int 6]))]) (fz := fz) (wc := []) (wr := [(x, .inr (6, [.int (nI lim), .int (nI rm), .ref y, .int 6]))]) (w1 := ([] ++ fz)) hP hD [] [0] rfl rfl (by decide) (by decide) hk1 hFc hP1 hD1
  have hK := (hK.sub (tys' := []) [] rfl).app hK1
  generalize H1 = H at hP hS ⊢
  have hP : va_P (dC, dI) vwCl ([(x, .inr (6, [.int (nI lim), .int (nI rm), .ref y, .int 6]))] ++ fz) H := hP
  have hD : va_D A ([(x, .inr (6, [.int (nI lim), .int (nI rm), .ref y, .int 6]))] ++ fz) := hD
  have hK : va_K (dC, dI) vwCl [(cB, .byte), (cO, .object "java/lang/Object")] s := hK
  refine lv_if_ne (tgt := 22) hx hb d_PA_afterTest_11 rfl (fun h1 => ?_) (fun h1 => ?_)
  · have hb9 : smR 30 wt vr = true := bI_ne.mp (show ¬ bI _ = 0 from hw3 ▸ h1)
    refine lv_aload_n hx hb d_PA_afterTest_22 rfl (lv_at hl 0 rfl) ?_
    refine va_get (D := (dC, dI)) (ci := 6) (v := .ref y) (C := R_PA) (T := T_PA) (N := 4) hx hb htb in_PA hown hK hP 0 rfl rfl 2 (by decide) (htb _ m_757) (fun _ h9 => h9) rfl d_PA_afterTest_23 ?_
    have hP9 := zz_pickP (pre := [(x, .inr (6, [.int (nI lim), .int (nI rm), .ref y, .int 6]))]) (fz := fz) (wc := [(x, .inr (6, [.int (nI lim), .int (nI rm), .ref y, .int 6]))]) hP [0] rfl
    have hD9 := zz_pickD (pre := [(x, .inr (6, [.int (nI lim), .int (nI rm), .ref y, .int 6]))]) (fz := fz) (wc := [(x, .inr (6, [.int (nI lim), .int (nI rm), .ref y, .int 6]))]) hD [0] (by decide) rfl
    have hK9 := hK.sub (tys' := [(cB, .byte), (cO, .object "java/lang/Object")]) [0, 1] rfl
    refine W.widen (k := 0) (n := 0) (Nat.le_of_ble_eq_true rfl) (Nat.le_of_ble_eq_true rfl) ?_
    exact W.aret (v := .ref y) hx hb hr (Or.inl ⟨_, rfl⟩) (Or.inr ⟨_, rfl⟩) (fun t ht hW => ⟨⟨(some y), (6 : Int32), rfl, Or.inl ⟨rfl, hb9, rfl⟩, ⟨by rw [ht]; exact hP9, va_K.moved hW.alike hK9, hD9⟩⟩, hS.F ht⟩) hS.2.2 d_PA_afterTest_26
  · have hb9 : smR 30 wt vr = false := bI_eq.mp (show bI _ = 0 from hw3 ▸ h1)
    refine lv_aload_n hx hb d_PA_afterTest_14 rfl (lv_at hl 0 rfl) ?_
    refine lv_bipush (v := 7) hx hb d_PA_afterTest_15 (by decide) ?_
    refine va_put (D := (dC, dI)) (ci := 6) (v := .int 7) (ty := .int) (C := R_PA) (T := T_PA) (N := 4) hx hb htb in_PA ty_PA ty_PA_ok nm_PA hown hK hP hD hS 0 rfl rfl 3 (by decide) (htb _ m_759) (fun _ h9 => h9) rfl (by decide +kernel) rfl rfl (Nat.le_of_ble_eq_true rfl) d_PA_afterTest_17 (fun H locs hP hD hS => ?_)
    have hP : va_P (dC, dI) vwCl ([(x, .inr (6, [.int (nI lim), .int (nI rm), .ref y, .int 7]))] ++ fz) H := hP
    have hD : va_D A ([(x, .inr (6, [.int (nI lim), .int (nI rm), .ref y, .int 7]))] ++ fz) := hD
    refine lv_null hx hb d_PA_afterTest_20 ?_
    have hP9 := zz_pickP (pre := [(x, .inr (6, [.int (nI lim), .int (nI rm), .ref y, .int 7]))]) (fz := fz) (wc := [(x, .inr (6, [.int (nI lim), .int (nI rm), .ref y, .int 7]))]) hP [0] rfl
    have hD9 := zz_pickD (pre := [(x, .inr (6, [.int (nI lim), .int (nI rm), .ref y, .int 7]))]) (fz := fz) (wc := [(x, .inr (6, [.int (nI lim), .int (nI rm), .ref y, .int 7]))]) hD [0] (by decide) rfl
    have hK9 := hK.sub (tys' := [(cB, .byte), (cO, .object "java/lang/Object")]) [0, 1] rfl
    refine W.widen (k := 0) (n := 0) (Nat.le_of_ble_eq_true rfl) (Nat.le_of_ble_eq_true rfl) ?_
    exact W.aret (v := .null) hx hb hr (Or.inl ⟨_, rfl⟩) (Or.inl rfl) (fun t ht hW => ⟨⟨none, (7 : Int32), rfl, Or.inr ⟨rfl, by rw [hb9]; decide, rfl⟩, ⟨by rw [ht]; exact hP9, va_K.moved hW.alike hK9, hD9⟩⟩, hS.F ht⟩) hS.2.2 d_PA_afterTest_21
set_option maxHeartbeats 1000000 in
set_option maxRecDepth 100000 in
/-- afterMove(from, path) -/
theorem k_PA_afterMove (l : Launch) (dC : Nat → ClassId) (dI : Nat → Nat → Nat) (sz : Nat) (x : Nat) (lim : Nat) (rm : Nat) (y : Nat) (d : Nat) (n0 : List Nat) (w0 : List Row) (fa : Nat) (fs : List (List Nat)) (pa : Nat) (ps : List (List Nat)) (cB : ClassId) (cO : ClassId) (em : Nat) (aK : Nat → Nat) (aV : Nat → Nat) (fz : va_W) (hv : VT cB cO em aK d fz y n0 w0) (hsz : w0.length ≤ 32) (hd : d ≤ 12) (hfp : PTz cB aK fz fs fa) (hpp : PTz cB aK fz ps pa) (hf9 : fs.length ≤ 160) (hp9 : ps.length ≤ 160) : Met l y_PA_afterMove ws_PA_afterMove ({ frames := 400, cells := (7 * (fs.length + ps.length)), slots := (97 * (fs.length + ps.length)), locals := 14000 }) (va_Pc [.ref x, .ref fa, .ref pa] (fun U => U.heap.size = sz ∧ va_P (dC, dI) vwCl ([(x, .inr (6, [.int (nI lim), .int (nI rm), .ref y, .int 6]))] ++ fz) U.heap ∧ va_K (dC, dI) vwCl [(cB, .byte), (cO, .object "java/lang/Object")] U ∧ va_D (fun _ => True) ([(x, .inr (6, [.int (nI lim), .int (nI rm), .ref y, .int 6]))] ++ fz) ∧ EX em aK aV (va_A ([(x, .inr (6, [.int (nI lim), .int (nI rm), .ref y, .int 6]))] ++ fz) sz) U U.heap)) (va_Qq (fun (r : Option Nat) (u : va_W) => (r = none ∧ (aftR (4, ps, fs, []) w0).1 = 6) ∨ ∃ y8 n8 w8, r = some y8 ∧ (aftR (4, ps, fs, []) w0) = (0, w8) ∧ VT cB cO em aK 30 (u ++ fz) y8 n8 w8) (fun u t => va_P (dC, dI) vwCl ([(x, .inr (6, [.int (nI lim), .int (nI rm), .ref y, .int 6]))] ++ (u ++ fz)) t.heap ∧ va_K (dC, dI) vwCl [(cB, .byte), (cO, .object "java/lang/Object")] t ∧ va_D (va_A ([(x, .inr (6, [.int (nI lim), .int (nI rm), .ref y, .int 6]))] ++ fz) sz) ([(x, .inr (6, [.int (nI lim), .int (nI rm), .ref y, .int 6]))] ++ (u ++ fz))) (va_A ([(x, .inr (6, [.int (nI lim), .int (nI rm), .ref y, .int 6]))] ++ fz) sz)) (7 * (fs.length + ps.length)) (97 * (fs.length + ps.length)) (va_A ([(x, .inr (6, [.int (nI lim), .int (nI rm), .ref y, .int 6]))] ++ fz) sz) := by
  refine Met.ofW (cc := c_PA_afterMove) (maxL := 5) (ret := (some (.object "PatchStore$Value"))) (by decide) rfl ?_
  intro p e s m args below meth c s₁ B hml hv
  obtain ⟨hargs, hsz, hP, hK, hD0, hE⟩ := hv
  rw [show entryFrame m args 5 = entryFrame m ([.ref x, .ref fa, .ref pa]).toArray 5 by rw [hargs]]
  have hx := B.exec
  have hb := B.bytes
  have hr := B.returns
  have hts := atoms_spec (ws := ws_PA_afterMove) B.pre
  have htb := fun w (h : w ∈ TBL) => hts w (List.mem_cons_of_mem _ h)
  have hown : s.vm.findClass R_PA = some m.cls := findClass_of_methodNamed B.named
  have hlocks := B.notSynchronized
  subst hsz
  have hD := hD0.self (sz := s.heap.size)
  generalize hAe : va_A ([(x, .inr (6, [.int (nI lim), .int (nI rm), .ref y, .int 6]))] ++ fz) s.heap.size = A at hD hE ⊢
  have hA : ∀ q : Nat, s.heap.size ≤ q → A q := fun q h => by rw [← hAe]; exact Or.inr h
  have hS : va_S A s.heap s.heap [] := va_S.rf
  have hP : va_P (dC, dI) vwCl ([(x, .inr (6, [.int (nI lim), .int (nI rm), .ref y, .int 6]))] ++ fz) s.heap := hP
  have hl := lv_entry ([.ref x, .ref fa, .ref pa]) (n := 5) (Nat.le_of_ble_eq_true rfl)
  rw [lg_entry_eq]
  generalize (lg_sl ([.ref x, .ref fa, .ref pa]) ++ List.replicate (5 - (lg_sl ([.ref x, .ref fa, .ref pa])).length) Slot.unset).toArray = ls at hl ⊢
  have hl : lv_has ls 5 [(0, .ref x), (1, .ref fa), (2, .ref pa)] := hl
  refine zz_nQ (fun Q hQ => ?_)
  have hmv : (aftR (4, ps, fs, []) w0) = (match trg fs w0 with | none => (6, []) | some m => if bgn ps fs = true then (if bgn fs ps = true then (0, w0) else (6, [])) else (match edt 2 [] fs w0 with | none => (6, []) | some r => edR (edt 1 m ps r))) := by rw [aftR, if_pos rfl]
  refine lv_aload_n hx hb d_PA_afterMove_0 rfl (lv_at hl 1 rfl) ?_
  refine lv_aload_n hx hb d_PA_afterMove_1 rfl (lv_at hl 0 rfl) ?_
  refine va_get (D := (dC, dI)) (ci := 6) (v := .ref y) (C := R_PA) (T := T_PA) (N := 4) hx hb htb in_PA hown hK hP 0 rfl rfl 2 (by decide) (htb _ m_757) (fun _ h9 => h9) rfl d_PA_afterMove_2 ?_
  have hPc := zz_pickP (pre := [(x, .inr (6, [.int (nI lim), .int (nI rm), .ref y, .int 6]))]) (fz := fz) (wc := []) hP [] rfl
  have hDc := zz_pickD (pre := [(x, .inr (6, [.int (nI lim), .int (nI rm), .ref y, .int 6]))]) (fz := fz) (wc := []) hD [] (by decide) rfl
  have hFc := zz_free (pre := [(x, .inr (6, [.int (nI lim), .int (nI rm), .ref y, .int 6]))]) (fz := fz) (wc := []) hD hS hA [] rfl
  have hKc := hK.sub (tys' := [(cB, .byte), (cO, .object "java/lang/Object")]) [0, 1] rfl
  refine va_callq (va_runV (As := [.ref y]) (rest := []) ⟨hx, hb, hml, hown, htb⟩ (k_PT_target l dC dI _ y d n0 w0 fa fs cB cO em aK aV fz hv hfp) (cwV 1 htb (g_V (fun _ h => h) m_787 m_784 m_785 m_786 m_21) rfl rfl rfl (by decide +kernel) ⟨Nat.le_of_ble_eq_true rfl, Nat.le_of_ble_eq_true rfl⟩) ⟨fun a U g mk q => by obtain ⟨q0, q1, qP, qK, qD, z0⟩ := q; exact ⟨q0, q1, qP, va_K.moved (u := U) (U := U.calling g mk a) (Vm.Alike.refl U.vm) qK, qD, EX.same (U := U) (U' := U.calling g mk a) rfl z0⟩, zz_recv hK hP (ci := 5) rfl (List.mem_append_right _ hfp.cell.choose_spec), fun U hU hW => ⟨rfl, by rw [hU], by rw [hU]; exact hPc, va_K.moved hW.alike hKc, hDc.weaken (fun _ _ _ _ => trivial), by rw [hU]; exact EX.warm hW ((hE.kept (fun a h1 h2 => hS.2.1 a h1 h2)).narrow hFc)⟩⟩ rfl rfl hl.1 rfl (lv_room (Nat.le_of_ble_eq_true rfl)) d_PA_afterMove_5 ⟨(by show 0 ≤ (7 * (fs.length + ps.length)); omega), (by show 0 ≤ (97 * (fs.length + ps.length)); omega)⟩) hS (fun q _ h => hFc q h) hFc (fun r2 u1 t H1 locs ht hvm hw3 hB hz1 hk1 hS => ?_)
  obtain ⟨hP1, hK1, hD1⟩ := hB
  rw [ht] at hP1
  have hK1 := va_K.moved hvm.symm hK1
  have hw3 : (r2 = none ∧ trg fs w0 = none) ∨ ∃ y8 n8 w8 d8, r2 = some y8 ∧ trg fs w0 = some w8 ∧ d8 ≤ d ∧ VT cB cO em aK d8 fz y8 n8 w8 := hw3
  obtain ⟨hP, hD⟩ := zz_join (pre := [(x, .inr (6, [.int (nI lim), .int (nI rm), .ref y, .int 6]))]) (fz := fz) (wc := []) (wr := [(x, .inr (6, [.int (nI lim), .int (nI rm), .ref y, .int 6]))]) (w1 := ([] ++ fz)) hP hD [] [0] rfl rfl (by decide) (by decide) hk1 hFc hP1 hD1
  have hK := (hK.sub (tys' := []) [] rfl).app hK1
  generalize H1 = H at hP hS ⊢
  have hP : va_P (dC, dI) vwCl ([(x, .inr (6, [.int (nI lim), .int (nI rm), .ref y, .int 6]))] ++ fz) H := hP
  have hD : va_D A ([(x, .inr (6, [.int (nI lim), .int (nI rm), .ref y, .int 6]))] ++ fz) := hD
  have hK : va_K (dC, dI) vwCl [(cB, .byte), (cO, .object "java/lang/Object")] s := hK
  obtain ⟨rfl, htg⟩ | ⟨ym, nm, wm, dm, rfl, htg, hdm, hvq⟩ := hw3
  · refine W.eq (g2 := F0 m 8 ls [.null]) rfl ?_
    refine lv_astore_nN hx hb d_PA_afterMove_8 rfl hl (by decide) rfl (fun ls hl => ?_)
    have hl : lv_has ls 5 [(3, .null), (0, .ref x), (1, .ref fa), (2, .ref pa)] := hl
    refine lv_aload_nN hx hb d_PA_afterMove_9 rfl (lv_at hl 0 rfl) ?_
    refine lv_ifnonnullN hx hb d_PA_afterMove_10 ?_
    refine lv_null hx hb d_PA_afterMove_13 ?_
    have hP9 := zz_pickP (pre := [(x, .inr (6, [.int (nI lim), .int (nI rm), .ref y, .int 6]))]) (fz := fz) (wc := [(x, .inr (6, [.int (nI lim), .int (nI rm), .ref y, .int 6]))]) hP [0] rfl
    have hD9 := zz_pickD (pre := [(x, .inr (6, [.int (nI lim), .int (nI rm), .ref y, .int 6]))]) (fz := fz) (wc := [(x, .inr (6, [.int (nI lim), .int (nI rm), .ref y, .int 6]))]) hD [0] (by decide) rfl
    have hK9 := hK.sub (tys' := [(cB, .byte), (cO, .object "java/lang/Object")]) [0, 1] rfl
    rw [hQ]
    refine W.widen (k := (7 * (fs.length + ps.length))) (n := (97 * (fs.length + ps.length))) ((by show 0 ≤ (7 * (fs.length + ps.length)); omega)) ((by show 0 ≤ (97 * (fs.length + ps.length)); omega)) ?_
    exact W.aret (v := .null) hx hb hr (Or.inl ⟨_, rfl⟩) (Or.inl rfl) (fun t ht hW => ⟨⟨none, ([] : va_W), rfl, Or.inl ⟨rfl, by rw [hmv, htg]⟩, ⟨by rw [ht]; exact hP9, va_K.moved hW.alike hK9, hD9⟩⟩, hS.F ht⟩) hS.2.2 d_PA_afterMove_14
  · refine W.eq (g2 := F0 m 8 ls [.ref ym]) rfl ?_
    rw [htg] at hmv
    refine lv_astore_n hx hb d_PA_afterMove_8 rfl hl (by decide) rfl (fun ls hl => ?_)
    have hl : lv_has ls 5 [(3, .ref ym), (0, .ref x), (1, .ref fa), (2, .ref pa)] := hl
    refine lv_aload_n hx hb d_PA_afterMove_9 rfl (lv_at hl 0 rfl) ?_
    refine lv_ifnonnull (tgt := 15) hx hb d_PA_afterMove_10 rfl ?_
    refine lv_aload_n hx hb d_PA_afterMove_15 rfl (lv_at hl 3 rfl) ?_
    refine lv_aload_n hx hb d_PA_afterMove_16 rfl (lv_at hl 2 rfl) ?_
    have hPc := zz_pickP (pre := [(x, .inr (6, [.int (nI lim), .int (nI rm), .ref y, .int 6]))]) (fz := fz) (wc := []) hP [] rfl
    have hDc := zz_pickD (pre := [(x, .inr (6, [.int (nI lim), .int (nI rm), .ref y, .int 6]))]) (fz := fz) (wc := []) hD [] (by decide) rfl
    have hFc := zz_free (pre := [(x, .inr (6, [.int (nI lim), .int (nI rm), .ref y, .int 6]))]) (fz := fz) (wc := []) hD hS hA [] rfl
    have hKc := hK.sub (tys' := [(cB, .byte), (cO, .object "java/lang/Object")]) [0, 1] rfl
    refine va_calli (va_runV (As := [.ref fa]) (rest := []) ⟨hx, hb, hml, hown, htb⟩ (k_PT_beginsWith l dC dI _ pa ps fa fs cB cO em aK aV fz hpp hfp) (cwV 1 htb (g_V (fun _ h => h) m_802 m_799 m_800 m_801 m_21) rfl rfl rfl (by decide +kernel) ⟨Nat.le_of_ble_eq_true rfl, Nat.le_of_ble_eq_true rfl⟩) ⟨fun a U g mk q => by obtain ⟨q0, q1, qP, qK, qD, z0⟩ := q; exact ⟨q0, q1, qP, va_K.moved (u := U) (U := U.calling g mk a) (Vm.Alike.refl U.vm) qK, qD, EX.same (U := U) (U' := U.calling g mk a) rfl z0⟩, zz_recv hK hP (ci := 5) rfl (List.mem_append_right _ hpp.cell.choose_spec), fun U hU hW => ⟨rfl, by rw [hU], by rw [hU]; exact hPc, va_K.moved hW.alike hKc, hDc.weaken (fun _ _ _ _ => trivial), by rw [hU]; exact EX.warm hW ((hE.kept (fun a h1 h2 => hS.2.1 a h1 h2)).narrow hFc)⟩⟩ rfl rfl hl.1 rfl (lv_room (Nat.le_of_ble_eq_true rfl)) d_PA_afterMove_17 ⟨(by show 0 ≤ (7 * (fs.length + ps.length)); omega), (by show 0 ≤ (97 * (fs.length + ps.length)); omega)⟩) hS (fun q _ h => hFc q h) hFc (fun r6 u5 t H1 locs ht hvm hw7 hB hz1 hk1 hS => ?_)
    obtain ⟨hP1, hK1, hD1⟩ := hB
    rw [ht] at hP1
    have hK1 := va_K.moved hvm.symm hK1
    have hw7 : r6 = bI (bgn ps fs) := hw7
    obtain ⟨hP, hD⟩ := zz_join (pre := [(x, .inr (6, [.int (nI lim), .int (nI rm), .ref y, .int 6]))]) (fz := fz) (wc := []) (wr := [(x, .inr (6, [.int (nI lim), .int (nI rm), .ref y, .int 6]))]) (w1 := ([] ++ fz)) hP hD [] [0] rfl rfl (by decide) (by decide) hk1 hFc hP1 hD1
    have hK := (hK.sub (tys' := []) [] rfl).app hK1
    generalize H1 = H at hP hS ⊢
    have hP : va_P (dC, dI) vwCl ([(x, .inr (6, [.int (nI lim), .int (nI rm), .ref y, .int 6]))] ++ fz) H := hP
    have hD : va_D A ([(x, .inr (6, [.int (nI lim), .int (nI rm), .ref y, .int 6]))] ++ fz) := hD
    have hK : va_K (dC, dI) vwCl [(cB, .byte), (cO, .object "java/lang/Object")] s := hK
    refine lv_if_eq (tgt := 40) hx hb d_PA_afterMove_20 rfl (fun h1 => ?_) (fun h1 => ?_)
    · have hb1 : bgn ps fs = false := bI_eq.mp (show bI _ = 0 from hw7 ▸ h1)
      have hmv : (aftR (4, ps, fs, []) w0) = (match edt 2 [] fs w0 with | none => (6, []) | some r => edR (edt 1 wm ps r)) := by rw [hmv]; exact if_neg (by rw [hb1]; decide)
      refine lv_aload_n hx hb d_PA_afterMove_40 rfl (lv_at hl 1 rfl) ?_
      refine va_get (D := (dC, dI)) (ci := 6) (v := .ref y) (C := R_PA) (T := T_PA) (N := 4) hx hb htb in_PA hown hK hP 0 rfl rfl 2 (by decide) (htb _ m_757) (fun _ h9 => h9) rfl d_PA_afterMove_41 ?_
      refine lv_aload_n hx hb d_PA_afterMove_44 rfl (lv_at hl 2 rfl) ?_
      refine lv_iconst (v := 2) hx hb d_PA_afterMove_45 (by decide) ?_
      refine lv_null hx hb d_PA_afterMove_46 ?_
      have hPc := zz_pickP (pre := [(x, .inr (6, [.int (nI lim), .int (nI rm), .ref y, .int 6]))]) (fz := fz) (wc := []) hP [] rfl
      have hDc := zz_pickD (pre := [(x, .inr (6, [.int (nI lim), .int (nI rm), .ref y, .int 6]))]) (fz := fz) (wc := []) hD [] (by decide) rfl
      have hFc := zz_free (pre := [(x, .inr (6, [.int (nI lim), .int (nI rm), .ref y, .int 6]))]) (fz := fz) (wc := []) hD hS hA [] rfl
      have hKc := hK.sub (tys' := [(cB, .byte), (cO, .object "java/lang/Object")]) [0, 1] rfl
      refine va_callq (va_runS (As := [.ref y, .ref fa, .int 2, .null]) (rest := []) ⟨hx, hb, hml, hown, htb⟩ (all_PA_editedN fs l dC dI _ y d n0 w0 fa cB cO em aK aV fz hv hfp (by omega) (by omega)) (va_cwS 4 htb (g_S (fun _ h => h) m_806 m_804 m_805 m_23) rfl rfl rfl (by decide +kernel) ⟨(by show ((20 + 2 * fs.length) + 1) ≤ 400; omega), (by show (27 + (500 + 80 * fs.length)) ≤ 14000; omega)⟩) ⟨fun a U g mk q => by obtain ⟨q0, q1, qP, qK, qD, z0⟩ := q; exact ⟨q0, q1, qP, va_K.moved (u := U) (U := U.calling g mk a) (Vm.Alike.refl U.vm) qK, qD, EX.same (U := U) (U' := U.calling g mk a) rfl z0⟩, fun U hU hW => ⟨rfl, by rw [hU], by rw [hU]; exact hPc, va_K.moved hW.alike hKc, hDc.weaken (fun _ _ _ _ => trivial), by rw [hU]; exact EX.warm hW ((hE.kept (fun a h1 h2 => hS.2.1 a h1 h2)).narrow hFc)⟩⟩ rfl rfl hl.1 rfl (lv_room (Nat.le_of_ble_eq_true rfl)) d_PA_afterMove_47 ⟨(by show (0 + (7 * fs.length)) ≤ (7 * (fs.length + ps.length)); omega), (by show (0 + (97 * fs.length)) ≤ (97 * (fs.length + ps.length)); omega)⟩) hS (fun q _ h => hFc q h) hFc (fun r10 u9 t H1 locs ht hvm hw11 hB hz1 hk1 hS => ?_)
      obtain ⟨hP1, hK1, hD1⟩ := hB
      rw [ht] at hP1
      have hK1 := va_K.moved hvm.symm hK1
      have hw11 : (r10 = none ∧ edt 2 [] fs w0 = none) ∨ ∃ y8 n8 w8, r10 = some y8 ∧ edt 2 [] fs w0 = some w8 ∧ VT cB cO em aK d (u9 ++ fz) y8 n8 w8 := hw11
      obtain ⟨hP, hD⟩ := zz_join (pre := [(x, .inr (6, [.int (nI lim), .int (nI rm), .ref y, .int 6]))]) (fz := fz) (wc := []) (wr := [(x, .inr (6, [.int (nI lim), .int (nI rm), .ref y, .int 6]))]) (w1 := ([] ++ (u9 ++ fz))) hP hD [] [0] rfl rfl (by decide) (by decide) hk1 hFc hP1 hD1
      have hK := (hK.sub (tys' := []) [] rfl).app hK1
      generalize H1 = H at hP hS ⊢
      have hP : va_P (dC, dI) vwCl ([(x, .inr (6, [.int (nI lim), .int (nI rm), .ref y, .int 6]))] ++ (u9 ++ fz)) H := hP
      have hD : va_D A ([(x, .inr (6, [.int (nI lim), .int (nI rm), .ref y, .int 6]))] ++ (u9 ++ fz)) := hD
      have hK : va_K (dC, dI) vwCl [(cB, .byte), (cO, .object "java/lang/Object")] s := hK
      obtain ⟨rfl, he4⟩ | ⟨y4, n4, w4, rfl, he4, hv4⟩ := hw11
      · refine W.eq (g2 := F0 m 50 ls [.null]) rfl ?_
        refine lv_astoreN hx hb d_PA_afterMove_50 hl (by decide) rfl (fun ls hl => ?_)
        have hl : lv_has ls 5 [(4, .null), (3, .ref ym), (0, .ref x), (1, .ref fa), (2, .ref pa)] := hl
        refine lv_aloadN hx hb d_PA_afterMove_52 (lv_at hl 0 rfl) ?_
        refine lv_ifnonnullN hx hb d_PA_afterMove_54 ?_
        refine lv_null hx hb d_PA_afterMove_57 ?_
        refine lv_goto (tgt := 69) hx hb d_PA_afterMove_58 rfl ?_
        have hP9 := zz_pickP (pre := [(x, .inr (6, [.int (nI lim), .int (nI rm), .ref y, .int 6]))]) (fz := (u9 ++ fz)) (wc := [(x, .inr (6, [.int (nI lim), .int (nI rm), .ref y, .int 6]))]) hP [0] rfl
        have hD9 := zz_pickD (pre := [(x, .inr (6, [.int (nI lim), .int (nI rm), .ref y, .int 6]))]) (fz := (u9 ++ fz)) (wc := [(x, .inr (6, [.int (nI lim), .int (nI rm), .ref y, .int 6]))]) hD [0] (by decide) rfl
        have hK9 := hK.sub (tys' := [(cB, .byte), (cO, .object "java/lang/Object")]) [0, 1] rfl
        rw [hQ]
        refine W.widen (k := (7 * (fs.length + ps.length))) (n := (97 * (fs.length + ps.length))) ((by show (0 + (7 * fs.length)) ≤ (7 * (fs.length + ps.length)); omega)) ((by show (0 + (97 * fs.length)) ≤ (97 * (fs.length + ps.length)); omega)) ?_
        exact W.aret (v := .null) hx hb hr (Or.inl ⟨_, rfl⟩) (Or.inl rfl) (fun t ht hW => ⟨⟨none, u9, rfl, Or.inl ⟨rfl, by rw [hmv, he4]⟩, ⟨by rw [ht]; exact hP9, va_K.moved hW.alike hK9, hD9⟩⟩, hS.F ht⟩) hS.2.2 d_PA_afterMove_69
      · refine W.eq (g2 := F0 m 50 ls [.ref y4]) rfl ?_
        have hmv : (aftR (4, ps, fs, []) w0) = edR (edt 1 wm ps w4) := by simp only [hmv, he4]
        have hgr : ∀ q ∈ fz, q ∈ (u9 ++ fz) := fun q hq => List.mem_append_right _ hq
        have hl4 := edt_rm_len fs d w0 w4 hv.wr he4
        refine lv_astore hx hb d_PA_afterMove_50 hl (by decide) rfl (fun ls hl => ?_)
        have hl : lv_has ls 5 [(4, .ref y4), (3, .ref ym), (0, .ref x), (1, .ref fa), (2, .ref pa)] := hl
        refine lv_aload hx hb d_PA_afterMove_52 (lv_at hl 0 rfl) ?_
        refine lv_ifnonnull (tgt := 61) hx hb d_PA_afterMove_54 rfl ?_
        refine lv_aload hx hb d_PA_afterMove_61 (lv_at hl 0 rfl) ?_
        refine lv_aload_n hx hb d_PA_afterMove_63 rfl (lv_at hl 4 rfl) ?_
        refine lv_iconst (v := 1) hx hb d_PA_afterMove_64 (by decide) ?_
        refine lv_aload_n hx hb d_PA_afterMove_65 rfl (lv_at hl 1 rfl) ?_
        refine W.eq (g2 := F0 m 66 ls [.ref ym, .int (nI 1), .ref pa, .ref y4]) rfl ?_
        have hPc := zz_pickP (pre := [(x, .inr (6, [.int (nI lim), .int (nI rm), .ref y, .int 6]))]) (fz := (u9 ++ fz)) (wc := []) hP [] rfl
        have hDc := zz_pickD (pre := [(x, .inr (6, [.int (nI lim), .int (nI rm), .ref y, .int 6]))]) (fz := (u9 ++ fz)) (wc := []) hD [] (by decide) rfl
        have hFc := zz_free (pre := [(x, .inr (6, [.int (nI lim), .int (nI rm), .ref y, .int 6]))]) (fz := (u9 ++ fz)) (wc := []) hD hS hA [] rfl
        have hKc := hK.sub (tys' := [(cB, .byte), (cO, .object "java/lang/Object")]) [0, 1] rfl
        refine va_callq (va_runS (As := [.ref y4, .ref pa, .int (nI 1), .ref ym]) (rest := []) ⟨hx, hb, hml, hown, htb⟩ (all_PA_editedV ps l dC dI _ y4 d n4 w4 pa 1 ym dm nm wm cB cO em aK aV (u9 ++ fz) hv4 (hpp.mono hgr) (by omega) (by omega) (Or.inl rfl) (hvq.mono hgr)) (va_cwS 4 htb (g_S (fun _ h => h) m_806 m_804 m_805 m_23) rfl rfl rfl (by decide +kernel) ⟨(by show ((20 + 2 * ps.length) + 1) ≤ 400; omega), (by show (27 + (500 + 80 * ps.length)) ≤ 14000; omega)⟩) ⟨fun a U g mk q => by obtain ⟨q0, q1, qP, qK, qD, z0⟩ := q; exact ⟨q0, q1, qP, va_K.moved (u := U) (U := U.calling g mk a) (Vm.Alike.refl U.vm) qK, qD, EX.same (U := U) (U' := U.calling g mk a) rfl z0⟩, fun U hU hW => ⟨rfl, by rw [hU], by rw [hU]; exact hPc, va_K.moved hW.alike hKc, hDc.weaken (fun _ _ _ _ => trivial), by rw [hU]; exact EX.warm hW ((hE.kept (fun a h1 h2 => hS.2.1 a h1 h2)).narrow hFc)⟩⟩ rfl rfl hl.1 rfl (lv_room (Nat.le_of_ble_eq_true rfl)) d_PA_afterMove_66 ⟨(by show ((0 + (7 * fs.length)) + (7 * ps.length)) ≤ (7 * (fs.length + ps.length)); omega), (by show ((0 + (97 * fs.length)) + (97 * ps.length)) ≤ (97 * (fs.length + ps.length)); omega)⟩) hS (fun q _ h => hFc q h) hFc (fun r14 u13 t H1 locs ht hvm hw15 hB hz1 hk1 hS => ?_)
        obtain ⟨hP1, hK1, hD1⟩ := hB
        rw [ht] at hP1
        have hK1 := va_K.moved hvm.symm hK1
        have hw15 : (r14 = none ∧ edt 1 wm ps w4 = none) ∨ ∃ y8 n8 w8, r14 = some y8 ∧ edt 1 wm ps w4 = some w8 ∧ VT cB cO em aK (d + dm) (u13 ++ (u9 ++ fz)) y8 n8 w8 := hw15
        obtain ⟨hP, hD⟩ := zz_join (pre := [(x, .inr (6, [.int (nI lim), .int (nI rm), .ref y, .int 6]))]) (fz := (u9 ++ fz)) (wc := []) (wr := [(x, .inr (6, [.int (nI lim), .int (nI rm), .ref y, .int 6]))]) (w1 := ([] ++ (u13 ++ (u9 ++ fz)))) hP hD [] [0] rfl rfl (by decide) (by decide) hk1 hFc hP1 hD1
        have hK := (hK.sub (tys' := []) [] rfl).app hK1
        generalize H1 = H at hP hS ⊢
        have hP : va_P (dC, dI) vwCl ([(x, .inr (6, [.int (nI lim), .int (nI rm), .ref y, .int 6]))] ++ (u13 ++ (u9 ++ fz))) H := hP
        have hD : va_D A ([(x, .inr (6, [.int (nI lim), .int (nI rm), .ref y, .int 6]))] ++ (u13 ++ (u9 ++ fz))) := hD
        have hK : va_K (dC, dI) vwCl [(cB, .byte), (cO, .object "java/lang/Object")] s := hK
        obtain ⟨rfl, he5⟩ | ⟨y5, n5, w5, rfl, he5, hv5⟩ := hw15
        · refine W.eq (g2 := F0 m 69 ls [.null]) rfl ?_
          have hP := zz_permP (pre := [(x, .inr (6, [.int (nI lim), .int (nI rm), .ref y, .int 6]))]) (t1 := (u13 ++ (u9 ++ fz))) (t2 := ((u13 ++ u9) ++ fz)) hP (pm2 _ _ _)
          have hD := zz_permD (pre := [(x, .inr (6, [.int (nI lim), .int (nI rm), .ref y, .int 6]))]) (t1 := (u13 ++ (u9 ++ fz))) (t2 := ((u13 ++ u9) ++ fz)) hD (pm2 _ _ _)
          have hP9 := zz_pickP (pre := [(x, .inr (6, [.int (nI lim), .int (nI rm), .ref y, .int 6]))]) (fz := ((u13 ++ u9) ++ fz)) (wc := [(x, .inr (6, [.int (nI lim), .int (nI rm), .ref y, .int 6]))]) hP [0] rfl
          have hD9 := zz_pickD (pre := [(x, .inr (6, [.int (nI lim), .int (nI rm), .ref y, .int 6]))]) (fz := ((u13 ++ u9) ++ fz)) (wc := [(x, .inr (6, [.int (nI lim), .int (nI rm), .ref y, .int 6]))]) hD [0] (by decide) rfl
          have hK9 := hK.sub (tys' := [(cB, .byte), (cO, .object "java/lang/Object")]) [0, 1] rfl
          rw [hQ]
          refine W.widen (k := (7 * (fs.length + ps.length))) (n := (97 * (fs.length + ps.length))) ((by show ((0 + (7 * fs.length)) + (7 * ps.length)) ≤ (7 * (fs.length + ps.length)); omega)) ((by show ((0 + (97 * fs.length)) + (97 * ps.length)) ≤ (97 * (fs.length + ps.length)); omega)) ?_
          exact W.aret (v := .null) hx hb hr (Or.inl ⟨_, rfl⟩) (Or.inl rfl) (fun t ht hW => ⟨⟨none, (u13 ++ u9), rfl, Or.inl ⟨rfl, by rw [hmv, he5]; rfl⟩, ⟨by rw [ht]; exact hP9, va_K.moved hW.alike hK9, hD9⟩⟩, hS.F ht⟩) hS.2.2 d_PA_afterMove_69
        · refine W.eq (g2 := F0 m 69 ls [.ref y5]) rfl ?_
          have hP := zz_permP (pre := [(x, .inr (6, [.int (nI lim), .int (nI rm), .ref y, .int 6]))]) (t1 := (u13 ++ (u9 ++ fz))) (t2 := ((u13 ++ u9) ++ fz)) hP (pm2 _ _ _)
          have hD := zz_permD (pre := [(x, .inr (6, [.int (nI lim), .int (nI rm), .ref y, .int 6]))]) (t1 := (u13 ++ (u9 ++ fz))) (t2 := ((u13 ++ u9) ++ fz)) hD (pm2 _ _ _)
          have hP9 := zz_pickP (pre := [(x, .inr (6, [.int (nI lim), .int (nI rm), .ref y, .int 6]))]) (fz := ((u13 ++ u9) ++ fz)) (wc := [(x, .inr (6, [.int (nI lim), .int (nI rm), .ref y, .int 6]))]) hP [0] rfl
          have hD9 := zz_pickD (pre := [(x, .inr (6, [.int (nI lim), .int (nI rm), .ref y, .int 6]))]) (fz := ((u13 ++ u9) ++ fz)) (wc := [(x, .inr (6, [.int (nI lim), .int (nI rm), .ref y, .int 6]))]) hD [0] (by decide) rfl
          have hK9 := hK.sub (tys' := [(cB, .byte), (cO, .object "java/lang/Object")]) [0, 1] rfl
          rw [hQ]
          refine W.widen (k := (7 * (fs.length + ps.length))) (n := (97 * (fs.length + ps.length))) ((by show ((0 + (7 * fs.length)) + (7 * ps.length)) ≤ (7 * (fs.length + ps.length)); omega)) ((by show ((0 + (97 * fs.length)) + (97 * ps.length)) ≤ (97 * (fs.length + ps.length)); omega)) ?_
          exact W.aret (v := .ref y5) hx hb hr (Or.inl ⟨_, rfl⟩) (Or.inr ⟨_, rfl⟩) (fun t ht hW => ⟨⟨(some y5), (u13 ++ u9), rfl, Or.inr ⟨_, _, _, rfl, by rw [hmv, he5]; rfl, (hv5.mono (fun q hq => (pm2 _ _ _).mem_iff.mpr hq)).up (by omega)⟩, ⟨by rw [ht]; exact hP9, va_K.moved hW.alike hK9, hD9⟩⟩, hS.F ht⟩) hS.2.2 d_PA_afterMove_69
    · have hb1 : bgn ps fs = true := bI_ne.mp (show ¬ bI _ = 0 from hw7 ▸ h1)
      have hmv : (aftR (4, ps, fs, []) w0) = if bgn fs ps = true then (0, w0) else (6, []) := by rw [hmv]; exact if_pos hb1
      refine lv_aload_n hx hb d_PA_afterMove_23 rfl (lv_at hl 2 rfl) ?_
      refine lv_aload_n hx hb d_PA_afterMove_24 rfl (lv_at hl 3 rfl) ?_
      have hPc := zz_pickP (pre := [(x, .inr (6, [.int (nI lim), .int (nI rm), .ref y, .int 6]))]) (fz := fz) (wc := []) hP [] rfl
      have hDc := zz_pickD (pre := [(x, .inr (6, [.int (nI lim), .int (nI rm), .ref y, .int 6]))]) (fz := fz) (wc := []) hD [] (by decide) rfl
      have hFc := zz_free (pre := [(x, .inr (6, [.int (nI lim), .int (nI rm), .ref y, .int 6]))]) (fz := fz) (wc := []) hD hS hA [] rfl
      have hKc := hK.sub (tys' := [(cB, .byte), (cO, .object "java/lang/Object")]) [0, 1] rfl
      refine va_calli (va_runV (As := [.ref pa]) (rest := []) ⟨hx, hb, hml, hown, htb⟩ (k_PT_beginsWith l dC dI _ fa fs pa ps cB cO em aK aV fz hfp hpp) (cwV 1 htb (g_V (fun _ h => h) m_802 m_799 m_800 m_801 m_21) rfl rfl rfl (by decide +kernel) ⟨Nat.le_of_ble_eq_true rfl, Nat.le_of_ble_eq_true rfl⟩) ⟨fun a U g mk q => by obtain ⟨q0, q1, qP, qK, qD, z0⟩ := q; exact ⟨q0, q1, qP, va_K.moved (u := U) (U := U.calling g mk a) (Vm.Alike.refl U.vm) qK, qD, EX.same (U := U) (U' := U.calling g mk a) rfl z0⟩, zz_recv hK hP (ci := 5) rfl (List.mem_append_right _ hfp.cell.choose_spec), fun U hU hW => ⟨rfl, by rw [hU], by rw [hU]; exact hPc, va_K.moved hW.alike hKc, hDc.weaken (fun _ _ _ _ => trivial), by rw [hU]; exact EX.warm hW ((hE.kept (fun a h1 h2 => hS.2.1 a h1 h2)).narrow hFc)⟩⟩ rfl rfl hl.1 rfl (lv_room (Nat.le_of_ble_eq_true rfl)) d_PA_afterMove_25 ⟨(by show 0 ≤ (7 * (fs.length + ps.length)); omega), (by show 0 ≤ (97 * (fs.length + ps.length)); omega)⟩) hS (fun q _ h => hFc q h) hFc (fun r10 u9 t H1 locs ht hvm hw11 hB hz1 hk1 hS => ?_)
      obtain ⟨hP1, hK1, hD1⟩ := hB
      rw [ht] at hP1
      have hK1 := va_K.moved hvm.symm hK1
      have hw11 : r10 = bI (bgn fs ps) := hw11
      obtain ⟨hP, hD⟩ := zz_join (pre := [(x, .inr (6, [.int (nI lim), .int (nI rm), .ref y, .int 6]))]) (fz := fz) (wc := []) (wr := [(x, .inr (6, [.int (nI lim), .int (nI rm), .ref y, .int 6]))]) (w1 := ([] ++ fz)) hP hD [] [0] rfl rfl (by decide) (by decide) hk1 hFc hP1 hD1
      have hK := (hK.sub (tys' := []) [] rfl).app hK1
      generalize H1 = H at hP hS ⊢
      have hP : va_P (dC, dI) vwCl ([(x, .inr (6, [.int (nI lim), .int (nI rm), .ref y, .int 6]))] ++ fz) H := hP
      have hD : va_D A ([(x, .inr (6, [.int (nI lim), .int (nI rm), .ref y, .int 6]))] ++ fz) := hD
      have hK : va_K (dC, dI) vwCl [(cB, .byte), (cO, .object "java/lang/Object")] s := hK
      refine lv_if_eq (tgt := 38) hx hb d_PA_afterMove_28 rfl (fun h2 => ?_) (fun h2 => ?_)
      · have hb2 : bgn fs ps = false := bI_eq.mp (show bI _ = 0 from hw11 ▸ h2)
        refine lv_null hx hb d_PA_afterMove_38 ?_
        have hP9 := zz_pickP (pre := [(x, .inr (6, [.int (nI lim), .int (nI rm), .ref y, .int 6]))]) (fz := fz) (wc := [(x, .inr (6, [.int (nI lim), .int (nI rm), .ref y, .int 6]))]) hP [0] rfl
        have hD9 := zz_pickD (pre := [(x, .inr (6, [.int (nI lim), .int (nI rm), .ref y, .int 6]))]) (fz := fz) (wc := [(x, .inr (6, [.int (nI lim), .int (nI rm), .ref y, .int 6]))]) hD [0] (by decide) rfl
        have hK9 := hK.sub (tys' := [(cB, .byte), (cO, .object "java/lang/Object")]) [0, 1] rfl
        rw [hQ]
        refine W.widen (k := (7 * (fs.length + ps.length))) (n := (97 * (fs.length + ps.length))) ((by show 0 ≤ (7 * (fs.length + ps.length)); omega)) ((by show 0 ≤ (97 * (fs.length + ps.length)); omega)) ?_
        exact W.aret (v := .null) hx hb hr (Or.inl ⟨_, rfl⟩) (Or.inl rfl) (fun t ht hW => ⟨⟨none, ([] : va_W), rfl, Or.inl ⟨rfl, by rw [hmv, if_neg (by rw [hb2]; decide)]⟩, ⟨by rw [ht]; exact hP9, va_K.moved hW.alike hK9, hD9⟩⟩, hS.F ht⟩) hS.2.2 d_PA_afterMove_39
      · have hb2 : bgn fs ps = true := bI_ne.mp (show ¬ bI _ = 0 from hw11 ▸ h2)
        refine lv_aload_n hx hb d_PA_afterMove_31 rfl (lv_at hl 1 rfl) ?_
        refine va_get (D := (dC, dI)) (ci := 6) (v := .ref y) (C := R_PA) (T := T_PA) (N := 4) hx hb htb in_PA hown hK hP 0 rfl rfl 2 (by decide) (htb _ m_757) (fun _ h9 => h9) rfl d_PA_afterMove_32 ?_
        refine lv_goto (tgt := 39) hx hb d_PA_afterMove_35 rfl ?_
        have hP9 := zz_pickP (pre := [(x, .inr (6, [.int (nI lim), .int (nI rm), .ref y, .int 6]))]) (fz := fz) (wc := [(x, .inr (6, [.int (nI lim), .int (nI rm), .ref y, .int 6]))]) hP [0] rfl
        have hD9 := zz_pickD (pre := [(x, .inr (6, [.int (nI lim), .int (nI rm), .ref y, .int 6]))]) (fz := fz) (wc := [(x, .inr (6, [.int (nI lim), .int (nI rm), .ref y, .int 6]))]) hD [0] (by decide) rfl
        have hK9 := hK.sub (tys' := [(cB, .byte), (cO, .object "java/lang/Object")]) [0, 1] rfl
        rw [hQ]
        refine W.widen (k := (7 * (fs.length + ps.length))) (n := (97 * (fs.length + ps.length))) ((by show 0 ≤ (7 * (fs.length + ps.length)); omega)) ((by show 0 ≤ (97 * (fs.length + ps.length)); omega)) ?_
        exact W.aret (v := .ref y) hx hb hr (Or.inl ⟨_, rfl⟩) (Or.inr ⟨_, rfl⟩) (fun t ht hW => ⟨⟨(some y), ([] : va_W), rfl, Or.inr ⟨_, _, _, rfl, by rw [hmv, if_pos hb2], hv.up (by omega)⟩, ⟨by rw [ht]; exact hP9, va_K.moved hW.alike hK9, hD9⟩⟩, hS.F ht⟩) hS.2.2 d_PA_afterMove_39
