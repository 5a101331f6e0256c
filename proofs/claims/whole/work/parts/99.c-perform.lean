theorem spc_len1 {d : Nat} {w : List Row} {t : Nat} {p : List Row} (h : WR (d + 1) w) (ht : t < (ksR w).length) (hp : setNm [] p = p) : (spc w t 1 [((ksN w).getD t [], p)]).length + ((ksR w).getD t []).length = w.length + p.length := by
  obtain ⟨q, A, B, e1, _, _, _, _, e3⟩ := wr_around h ht
  have h9 := congrArg List.length e1
  rw [e3 p hp]
  simp only [List.length_cons, List.length_append, setNm_len, lift_len] at h9 ⊢
  omega
theorem spc_len0 {d : Nat} {w : List Row} {t : Nat} {s : List Nat} {p : List Row} (h : WR (d + 1) w) (ht : t ≤ (ksR w).length) (hp : setNm [] p = p) : (spc w t 0 [(s, p)]).length = w.length + p.length := by
  obtain ⟨q, A, B, e1, _, _, e3⟩ := wr_insert h ht
  have h9 := congrArg List.length e1
  rw [e3 s p hp]
  simp only [List.length_cons, List.length_append, setNm_len, lift_len] at h9 ⊢
  omega
theorem edt_len {kd e : Nat} {v : List Row} (hv : WR e v) (hkd : ¬ kd = 2) : ∀ (ss : List (List Nat)) (d : Nat) (w w' : List Row), WR d w → edt kd v ss w = some w' → w'.length ≤ w.length + v.length
  | [], d, w, w', hw, h => by rw [edt, if_neg hkd] at h; cases h; omega
  | s :: ss, 0, w, w', hw, h => hw.elim
  | s :: ss, d + 1, w, w', hw, h => by
    have hvs := wr_setNm hv
    rw [edt] at h
    split at h
    · unfold ed1 at h
      split at h
      · obtain ⟨t, ht, e⟩ := Option.map_eq_some_iff.mp h
        split at e
        · rw [← e, spc_len0 hw (plc_kd ht).1 hvs]
          exact Nat.le_refl _
        · next hne =>
          have htl : t < (ksR w).length := Nat.lt_of_le_of_ne (plc_kd ht).1 (fun h9 => hne (Or.inr h9))
          have := spc_len1 hw htl hvs
          rw [← e]; omega
      · obtain ⟨t, ht, e⟩ := Option.map_eq_some_iff.mp h
        try rw [if_neg hkd] at e
        have := spc_len1 hw (stp_lt ht).1 hvs
        rw [← e]; omega
    · cases hs : stp w s with
      | none => rw [hs] at h; cases h
      | some t =>
        rw [hs, Option.bind_some] at h
        obtain ⟨p, hp, ee⟩ := Option.map_eq_some_iff.mp h
        obtain ⟨_, _, _, _, _, hx, _⟩ := wr_around hw (stp_lt hs).1
        have hl := edt_len hv hkd ss d _ p hx hp
        have hw2 := wr_edt (Or.inr hv) ss d _ p hx hp
        have := spc_len1 hw (stp_lt hs).1 (wr_setNm hw2)
        rw [← ee]; omega
theorem trg_len {ss : List (List Nat)} {d : Nat} {w r : List Row} (hw : WR d w) (h : trg ss w = some r) : r.length ≤ w.length ∧ ∃ e, WR e r := by
  obtain ⟨e, l, nm, pre, post, h1, _, h2, _⟩ := rpt_flat ss d w r hw h
  have h9 := congrArg List.length h2
  simp only [List.length_append, setNm_len, lift_len] at h9
  exact ⟨by omega, e, h1⟩
theorem edR_len {o : Option (List Row)} {n : Nat} (h : ∀ x, o = some x → x.length ≤ n) : (edR o).2.length ≤ n := by
  cases o with
  | none => exact Nat.zero_le _
  | some x => exact h x rfl
theorem aft_len {o : Opn} {w : List Row} {d : Nat} (hw : WR d w) (hv : o.1 = 1 ∨ o.1 = 3 → ∃ e, WR e o.2.2.2) (hk : o.1 = 1 ∨ o.1 = 2 ∨ o.1 = 3 ∨ o.1 = 4 ∨ o.1 = 5 ∨ o.1 = 6) : (aftR o w).2.length ≤ 2 * w.length + o.2.2.2.length := by
  unfold aftR
  split
  · cases ht : trg o.2.2.1 w with
    | none => exact Nat.zero_le _
    | some m =>
      obtain ⟨h1, e, h2⟩ := trg_len hw ht
      simp only []
      split
      · split
        · show w.length ≤ _; omega
        · exact Nat.zero_le _
      · cases hr : edt 2 [] o.2.2.1 w with
        | none => exact Nat.zero_le _
        | some r =>
          have h3 := edt_rm_len _ d w r hw hr
          have h4 := wr_edt (e := 0) (Or.inl rfl) _ d w r hw hr
          exact edR_len (fun x hx => by have := edt_len h2 (by decide) _ _ r x h4 hx; omega)
  · split
    · cases ht : trg o.2.2.1 w with
      | none => exact Nat.zero_le _
      | some m =>
        obtain ⟨h1, e, h2⟩ := trg_len hw ht
        exact edR_len (fun x hx => by have := edt_len h2 (by decide) _ _ w x hw hx; omega)
    · split
      · cases ht : trg o.2.1 w with
        | none => exact Nat.zero_le _
        | some m =>
          simp only []
          split
          · show w.length ≤ _; omega
          · exact Nat.zero_le _
      · by_cases h2 : o.1 = 2
        · refine edR_len (fun x hx => ?_)
          rw [h2] at hx
          have := edt_rm_len _ d w x hw hx
          omega
        · obtain ⟨e, he⟩ := hv (by omega)
          exact edR_len (fun x hx => by have := edt_len he h2 _ _ w x hw hx; omega)
/-- all operations, one after the other -/
def prfR (lim rm : Nat) : List Opn → List Row → Nat × List Row
  | [], w => (0, w)
  | o :: os, w => if (aftR o w).1 = 0 then (if (aftR o w).2.length ≤ rm ∧ dpt (aftR o w).2 ≤ lim then prfR lim rm os (aftR o w).2 else if dpt (aftR o w).2 ≤ lim then (4, []) else (2, [])) else ((aftR o w).1, [])
def stS (os : List Opn) : Nat := (os.map (fun o => o.2.2.1.length + o.2.1.length)).sum
theorem stS_app (a b : List Opn) : stS (a ++ b) = stS a + stS b := by simp only [stS, List.map_append, List.sum_append]
theorem VT.low {cB cO : ClassId} {em : Nat} {aK : Nat → Nat} : ∀ {d m : Nat} {tl : va_W} {a : Nat} {nn : List Nat} {rows : List Row}, VT cB cO em aK d tl a nn rows → dpt rows ≤ m → VT cB cO em aK (m + 1) tl a nn rows
  | 0, _, _, _, _, _, h, _ => h.elim
  | d + 1, m, tl, a, nn, rows, h, hm => by
    have hwr := h.wr
    obtain ⟨kd, tx, nu, nm, pa, dp, cn, tt, k, num, rt, xs, ns, rs, h1, h2, h3, h4, h5, h6, h7, h8, h9, h10, h11, h12⟩ := h
    refine ⟨kd, tx, nu, nm, pa, dp, cn, tt, k, num, rt, xs, ns, rs, h1, h2, h3, h4, h5, h6, h7, h8, fun i hi => ?_, h10, h11, h12⟩
    have hr : ∀ r ∈ rs, r ≠ [] := of_getD (z := []) (fun i hi => (h9 i (by omega)).ne)
    have e2 : dpt rows = max (0 + (if 5 ≤ k then 1 else 0)) (dpt (kidRows k ns rs)) := by rw [h10]; rfl
    have hne : ¬ rs = [] := fun h => by rw [h] at h7; simp only [List.length_nil] at h7; omega
    rw [dpt_kids k ns rs (by omega) hr, if_neg hne] at e2
    have hmem : rs.getD i [] ∈ rs := by
      rw [List.getD_eq_getElem?_getD, List.getElem?_eq_getElem (by omega)]
      exact List.getElem_mem _
    have := dmx_mem hmem
    cases m with
    | zero => omega
    | succ m => exact (h9 i hi).low (by omega)
theorem OPz.kinds {cB cO : ClassId} {em : Nat} {aK : Nat → Nat} {tl : va_W} {op : Opn} {o : Nat} (h : OPz cB cO em aK tl op o) : (op.1 = 1 ∨ op.1 = 2 ∨ op.1 = 3 ∨ op.1 = 4 ∨ op.1 = 5 ∨ op.1 = 6) ∧ (op.1 = 1 ∨ op.1 = 3 → ∃ e, WR e op.2.2.2) := by
  obtain ⟨pa, h1, ⟨e, fa, h3, h4⟩ | ⟨e, h3⟩ | ⟨e, va, nv, dv, h3, h4, h5⟩⟩ := h
  · exact ⟨by omega, fun h => by omega⟩
  · exact ⟨by omega, fun h => by omega⟩
  · exact ⟨by omega, fun _ => ⟨dv, h4.wr⟩⟩
set_option maxHeartbeats 1000000 in
set_option maxRecDepth 100000 in
/-- perform(operations) -/
theorem k_PA_perform (l : Launch) (dC : Nat → ClassId) (dI : Nat → Nat → Nat) (sz : Nat) (x : Nat) (lim : Nat) (rm : Nat) (y : Nat) (n0 : List Nat) (w0 : List Row) (ol : Nat) (xs : List Nat) (os : List Opn) (cB : ClassId) (cO : ClassId) (em : Nat) (aK : Nat → Nat) (aV : Nat → Nat) (fz : va_W) (hv : VT cB cO em aK (lim + 1) fz y n0 w0) (hsz : w0.length ≤ rm) (hrm : rm ≤ 32) (hlim : lim ≤ 8) (hal : ALz cO em fz ol xs) (hol : os.length = xs.length) (hos : ∀ i, i < xs.length → OPz cB cO em aK fz (os.getD i ((0, [], [], []) : Opn)) (xs.getD i 0)) (hst : ∀ i, i < xs.length → (os.getD i ((0, [], [], []) : Opn)).2.1.length ≤ 160 ∧ (os.getD i ((0, [], [], []) : Opn)).2.2.1.length ≤ 160 ∧ (os.getD i ((0, [], [], []) : Opn)).2.2.2.length ≤ 160) : Met l y_PA_perform ws_PA_perform ({ frames := 420, cells := (7 * stS os), slots := (97 * stS os), locals := 14300 }) (va_Pc [.ref x, .ref ol] (fun U => U.heap.size = sz ∧ va_P (dC, dI) vwCl ([(x, .inr (6, [.int (nI lim), .int (nI rm), .ref y, .int 6]))] ++ fz) U.heap ∧ va_K (dC, dI) vwCl [(cB, .byte), (cO, .object "java/lang/Object")] U ∧ va_D (fun _ => True) ([(x, .inr (6, [.int (nI lim), .int (nI rm), .ref y, .int 6]))] ++ fz) ∧ EX em aK aV (va_A ([(x, .inr (6, [.int (nI lim), .int (nI rm), .ref y, .int 6]))] ++ fz) sz) U U.heap)) (va_Qi (fun (r : Int32) (u : Nat × Int32 × va_W) => r = nI (prfR lim rm os w0).1 ∧ (prfR lim rm os w0).1 ≤ 7 ∧ ((prfR lim rm os w0).1 = 0 → ∃ n8, VT cB cO em aK (lim + 1) (u.2.2 ++ fz) u.1 n8 (prfR lim rm os w0).2 ∧ (prfR lim rm os w0).2.length ≤ rm)) (fun u t => va_P (dC, dI) vwCl ([(x, .inr (6, [.int (nI lim), .int (nI rm), .ref u.1, .int u.2.1]))] ++ (u.2.2 ++ fz)) t.heap ∧ va_K (dC, dI) vwCl [(cB, .byte), (cO, .object "java/lang/Object")] t ∧ va_D (va_A ([(x, .inr (6, [.int (nI lim), .int (nI rm), .ref y, .int 6]))] ++ fz) sz) ([(x, .inr (6, [.int (nI lim), .int (nI rm), .ref u.1, .int u.2.1]))] ++ (u.2.2 ++ fz))) (va_A ([(x, .inr (6, [.int (nI lim), .int (nI rm), .ref y, .int 6]))] ++ fz) sz)) (7 * stS os) (97 * stS os) (va_A ([(x, .inr (6, [.int (nI lim), .int (nI rm), .ref y, .int 6]))] ++ fz) sz) := by
  refine Met.ofW (cc := c_PA_perform) (maxL := 4) (ret := (some .int)) (by decide) rfl ?_
  intro p e s m args below meth c s₁ B hml hv
  obtain ⟨hargs, hsz, hP, hK, hD0, hE⟩ := hv
  rw [show entryFrame m args 4 = entryFrame m ([.ref x, .ref ol]).toArray 4 by rw [hargs]]
  have hx := B.exec
  have hb := B.bytes
  have hr := B.returns
  have hts := atoms_spec (ws := ws_PA_perform) B.pre
  have htb := fun w (h : w ∈ TBL) => hts w (List.mem_cons_of_mem _ h)
  have hown : s.vm.findClass R_PA = some m.cls := findClass_of_methodNamed B.named
  have hlocks := B.notSynchronized
  subst hsz
  have hD := hD0.self (sz := s.heap.size)
  generalize hAe : va_A ([(x, .inr (6, [.int (nI lim), .int (nI rm), .ref y, .int 6]))] ++ fz) s.heap.size = A at hD hE ⊢
  have hA : ∀ q : Nat, s.heap.size ≤ q → A q := fun q h => by rw [← hAe]; exact Or.inr h
  have hS : va_S A s.heap s.heap [] := va_S.rf
  have hP : va_P (dC, dI) vwCl ([(x, .inr (6, [.int (nI lim), .int (nI rm), .ref y, .int 6]))] ++ fz) s.heap := hP
  have hl := lv_entry ([.ref x, .ref ol]) (n := 4) (Nat.le_of_ble_eq_true rfl)
  rw [lg_entry_eq]
  generalize (lg_sl ([.ref x, .ref ol]) ++ List.replicate (4 - (lg_sl ([.ref x, .ref ol])).length) Slot.unset).toArray = ls at hl ⊢
  have hl : lv_has ls 4 [(0, .ref x), (1, .ref ol)] := hl
  refine zz_nQ (fun Q hQ => ?_)
  have h160 := hal.1
  refine lv_iconst (v := 0) hx hb d_PA_perform_0 (by decide) ?_
  refine lv_istore_n hx hb d_PA_perform_1 rfl hl (by decide) rfl (fun ls hl => ?_)
  have hl : lv_has ls 4 [(2, .int 0), (0, .ref x), (1, .ref ol)] := hl
  have hloop : ∀ (k9 : Nat) (i : Nat) (y1 : Nat) (n1 : List Nat) (w1 : List Row) (nz1 : va_W) (H : Heap) (locs : List Loc) (ls : Array Slot), xs.length - i = k9 → (i ≤ xs.length) → (VT cB cO em aK (lim + 1) (nz1 ++ fz) y1 n1 w1) → (w1.length ≤ rm) → (prfR lim rm (os.drop i) w1 = (prfR lim rm os w0)) → lv_has ls 4 [(2, .int (nI i)), (0, .ref x), (1, .ref ol)] → va_P (dC, dI) vwCl ([(x, .inr (6, [.int (nI lim), .int (nI rm), .ref y1, .int 6]))] ++ (nz1 ++ fz)) H → va_D A ([(x, .inr (6, [.int (nI lim), .int (nI rm), .ref y1, .int 6]))] ++ (nz1 ++ fz)) → va_S A s.heap H locs → W p l e (headSpec ws_PA_perform ({ frames := 420, cells := (7 * stS os), slots := (97 * stS os), locals := 14300 })).room s m args below meth c H locs (7 * stS (os.take i)) (97 * stS (os.take i)) Q (F0 m 2 ls []) := by
    intro k9
    induction k9 using Nat.strongRecOn with
    | ind k9 ih =>
      intro i y1 n1 w1 nz1 H locs ls hk9 hi1 hv1 hi4 hi5 hl hP hD hS
      have hgr : ∀ q ∈ fz, q ∈ (nz1 ++ fz) := fun q hq => List.mem_append_right _ hq
      have hal8 := hal.mono hgr
      have hst0 := stS_app (os.take i) (os.drop i)
      rw [List.take_append_drop] at hst0
      refine lv_iload_n hx hb d_PA_perform_2 rfl (lv_at hl 0 rfl) ?_
      refine lv_aload_n hx hb d_PA_perform_3 rfl (lv_at hl 2 rfl) ?_
      have hPc : va_P (dC, dI) vwCl ([] ++ (nz1 ++ fz)) _ := zz_tlP (pre := [(x, .inr (6, [.int (nI lim), .int (nI rm), .ref y1, .int 6]))]) (tl := (nz1 ++ fz)) hP
      have hKc := hK.sub (tys' := []) [] rfl
      refine vp_callSi (W.runV (As := []) (rest := [.int (nI i)]) ⟨hx, hb, hml, hown, htb⟩ (z_AL_size l dC dI ol xs cO em (nz1 ++ fz) hal8) (cwV 0 htb (g_V (fun _ h => h) m_486 m_773 m_484 m_485 m_8) rfl rfl rfl (by decide +kernel) ⟨Nat.le_of_ble_eq_true rfl, Nat.le_of_ble_eq_true rfl⟩) ⟨fun a U g mk q => by obtain ⟨q0, qP, qK⟩ := q; exact ⟨q0, qP, va_K.moved (u := U) (U := U.calling g mk a) (Vm.Alike.refl U.vm) qK⟩, (hal8).recv hK hP (fun q hq => List.mem_append_right _ hq), fun U hU hW => ⟨rfl, by rw [hU]; exact hPc, va_K.moved hW.alike hKc⟩⟩ rfl rfl hl.1 rfl (lv_room (Nat.le_of_ble_eq_true rfl)) d_PA_perform_4 ⟨(by show (7 * stS (os.take i)) ≤ (7 * stS os); omega), (by show (97 * stS (os.take i)) ≤ (97 * stS os); omega)⟩) (fun r1 hw2 => ?_)
      have hw2 : r1 = nI xs.length := hw2
      obtain rfl := hw2
      refine lv_icmp_ge (tgt := 69) hx hb d_PA_perform_7 rfl (fun h1 => ?_) (fun h1 => ?_)
      · have h1 : xs.length ≤ i := (nI_leI (by omega) (by omega)).mp h1
        have hpr : (prfR lim rm os w0) = (0, w1) := by rw [← hi5, List.drop_eq_nil_of_le (by omega)]; rfl
        refine lv_iconst (v := 0) hx hb d_PA_perform_69 (by decide) ?_
        have hP9 := zz_pickP (pre := [(x, .inr (6, [.int (nI lim), .int (nI rm), .ref y1, .int 6]))]) (fz := (nz1 ++ fz)) (wc := [(x, .inr (6, [.int (nI lim), .int (nI rm), .ref y1, .int 6]))]) hP [0] rfl
        have hD9 := zz_pickD (pre := [(x, .inr (6, [.int (nI lim), .int (nI rm), .ref y1, .int 6]))]) (fz := (nz1 ++ fz)) (wc := [(x, .inr (6, [.int (nI lim), .int (nI rm), .ref y1, .int 6]))]) hD [0] (by decide) rfl
        have hK9 := hK.sub (tys' := [(cB, .byte), (cO, .object "java/lang/Object")]) [0, 1] rfl
        rw [hQ]
        refine W.widen (k := (7 * stS os)) (n := (97 * stS os)) ((by show (7 * stS (os.take i)) ≤ (7 * stS os); omega)) ((by show (97 * stS (os.take i)) ≤ (97 * stS os); omega)) ?_
        exact W.iret (v := 0) hx hb hr (fun t ht hW => ⟨⟨0, (y1, (6 : Int32), nz1), rfl, ⟨by rw [hpr]; rfl, by rw [hpr]; exact Nat.zero_le _, fun _ => ⟨n1, by rw [hpr]; exact hv1, by rw [hpr]; exact hi4⟩⟩, ⟨by rw [ht]; exact hP9, va_K.moved hW.alike hK9, hD9⟩⟩, hS.F ht⟩) hS.2.2 d_PA_perform_70
      · have h1 : i < xs.length := Nat.not_le.mp (fun h => h1 ((nI_leI (by omega) (by omega)).mpr h))
        have hoz := (hos i h1).mono hgr
        have hs3 := hst i h1
        have hdc : os.drop i = (os.getD i ((0, [], [], []) : Opn)) :: os.drop (i + 1) := by rw [List.getD_eq_getElem?_getD, List.getElem?_eq_getElem (by omega)]; exact List.drop_eq_getElem_cons (by omega)
        rw [hdc, prfR] at hi5
        have hst1 : stS (os.take (i + 1)) = stS (os.take i) + ((os.getD i ((0, [], [], []) : Opn)).2.2.1.length + (os.getD i ((0, [], [], []) : Opn)).2.1.length) := by rw [take_step ((0, [], [], []) : Opn) (by omega), stS_app]; simp [stS]
        have hst2 : stS (os.take (i + 1)) ≤ stS os := by have := stS_app (os.take (i + 1)) (os.drop (i + 1)); rw [List.take_append_drop] at this; omega
        have hkz := hoz.kinds
        have hal9 := aft_len hv1.wr hkz.2 hkz.1
        obtain ⟨fs4, hc4⟩ := hoz.vin
        refine lv_aload_n hx hb d_PA_perform_10 rfl (lv_at hl 1 rfl) ?_
        refine lv_aload_n hx hb d_PA_perform_11 rfl (lv_at hl 2 rfl) ?_
        refine lv_iload_n hx hb d_PA_perform_12 rfl (lv_at hl 0 rfl) ?_
        have hPc : va_P (dC, dI) vwCl ([] ++ (nz1 ++ fz)) _ := zz_tlP (pre := [(x, .inr (6, [.int (nI lim), .int (nI rm), .ref y1, .int 6]))]) (tl := (nz1 ++ fz)) hP
        have hKc := hK.sub (tys' := [(cO, .object "java/lang/Object")]) [1] rfl
        refine va_csq (W.runV (As := [.int (nI i)]) (rest := [.ref x]) ⟨hx, hb, hml, hown, htb⟩ (z_AL_get l dC dI ol xs cO em i (nz1 ++ fz) hal8 h1) (cwV 1 htb (g_V (fun _ h => h) m_490 m_774 m_488 m_489 m_8) rfl rfl rfl (by decide +kernel) ⟨Nat.le_of_ble_eq_true rfl, Nat.le_of_ble_eq_true rfl⟩) ⟨fun a U g mk q => by obtain ⟨q0, qP, qK⟩ := q; exact ⟨q0, qP, va_K.moved (u := U) (U := U.calling g mk a) (Vm.Alike.refl U.vm) qK⟩, (hal8).recv hK hP (fun q hq => List.mem_append_right _ hq), fun U hU hW => ⟨rfl, by rw [hU]; exact hPc, va_K.moved hW.alike hKc⟩⟩ rfl rfl hl.1 rfl (lv_room (Nat.le_of_ble_eq_true rfl)) d_PA_perform_13 ⟨(by show (7 * stS (os.take i)) ≤ (7 * stS os); omega), (by show (97 * stS (os.take i)) ≤ (97 * stS os); omega)⟩) (fun r3 hw4 => ?_)
        have hw4 : r3 = some (xs.getD i 0) := hw4
        obtain rfl := hw4
        refine W.eq (g2 := F0 m 16 ls [.ref (xs.getD i 0), .ref x]) rfl ?_
        refine va_castY (C := "PatchStore$Operation") hx hb hown (htb _ m_775) (nw_15 hE) (zz_recv hK hP (ci := 4) rfl (List.mem_append_right _ hc4)) d_PA_perform_16 ?_
        have hPc := zz_pickP (pre := [(x, .inr (6, [.int (nI lim), .int (nI rm), .ref y1, .int 6]))]) (fz := (nz1 ++ fz)) (wc := [(x, .inr (6, [.int (nI lim), .int (nI rm), .ref y1, .int 6]))]) hP [0] rfl
        have hDc := zz_pickD (pre := [(x, .inr (6, [.int (nI lim), .int (nI rm), .ref y1, .int 6]))]) (fz := (nz1 ++ fz)) (wc := [(x, .inr (6, [.int (nI lim), .int (nI rm), .ref y1, .int 6]))]) hD [0] (by decide) rfl
        have hFc := zz_free (pre := [(x, .inr (6, [.int (nI lim), .int (nI rm), .ref y1, .int 6]))]) (fz := (nz1 ++ fz)) (wc := [(x, .inr (6, [.int (nI lim), .int (nI rm), .ref y1, .int 6]))]) hD hS hA [0] rfl
        have hKc := hK.sub (tys' := [(cB, .byte), (cO, .object "java/lang/Object")]) [0, 1] rfl
        refine va_callq (va_runV (As := [.ref (xs.getD i 0)]) (rest := []) ⟨hx, hb, hml, hown, htb⟩ (k_PA_after l dC dI _ x lim rm y1 (lim + 1) n1 w1 (xs.getD i 0) (os.getD i ((0, [], [], []) : Opn)) cB cO em aK aV (nz1 ++ fz) hv1 (by omega) (by omega) hoz hs3.1 hs3.2.1) (cwV 1 htb (g_V (fun _ h => h) m_779 m_776 m_778 m_1634 m_23) rfl rfl rfl (by decide +kernel) ⟨Nat.le_of_ble_eq_true rfl, Nat.le_of_ble_eq_true rfl⟩) ⟨fun a U g mk q => by obtain ⟨q0, q1, qP, qK, qD, z0⟩ := q; exact ⟨q0, q1, qP, va_K.moved (u := U) (U := U.calling g mk a) (Vm.Alike.refl U.vm) qK, qD, EX.same (U := U) (U' := U.calling g mk a) rfl z0⟩, va_recv hK hP (ci := 6) rfl (q0 := 0) rfl, fun U hU hW => ⟨rfl, by rw [hU], by rw [hU]; exact hPc, va_K.moved hW.alike hKc, hDc.weaken (fun _ _ _ _ => trivial), by rw [hU]; exact EX.warm hW ((hE.kept (fun a h1 h2 => hS.2.1 a h1 h2)).narrow hFc)⟩⟩ rfl rfl hl.1 rfl (lv_room (Nat.le_of_ble_eq_true rfl)) d_PA_perform_19 ⟨(by show ((7 * stS (os.take i)) + (7 * ((os.getD i ((0, [], [], []) : Opn)).2.2.1.length + (os.getD i ((0, [], [], []) : Opn)).2.1.length))) ≤ (7 * stS os); omega), (by show ((97 * stS (os.take i)) + (97 * ((os.getD i ((0, [], [], []) : Opn)).2.2.1.length + (os.getD i ((0, [], [], []) : Opn)).2.1.length))) ≤ (97 * stS os); omega)⟩) hS (fun q _ h => hFc q h) hFc (fun r6 u5 t H1 locs ht hvm hw7 hB hz1 hk1 hS => ?_)
        obtain ⟨hP1, hK1, hD1⟩ := hB
        rw [ht] at hP1
        have hK1 := va_K.moved hvm.symm hK1
        obtain ⟨w9, w10⟩ := u5
        have hw7 : (r6 = none ∧ ¬ (aftR (os.getD i ((0, [], [], []) : Opn)) w1).1 = 0 ∧ (aftR (os.getD i ((0, [], [], []) : Opn)) w1).1 ≤ 7 ∧ w9 = nI (aftR (os.getD i ((0, [], [], []) : Opn)) w1).1) ∨ ∃ y8 n8 w8, r6 = some y8 ∧ (aftR (os.getD i ((0, [], [], []) : Opn)) w1) = (0, w8) ∧ w9 = 6 ∧ VT cB cO em aK 30 (w10 ++ (nz1 ++ fz)) y8 n8 w8 := hw7
        obtain ⟨hP, hD⟩ := zz_join (pre := [(x, .inr (6, [.int (nI lim), .int (nI rm), .ref y1, .int 6]))]) (fz := (nz1 ++ fz)) (wc := [(x, .inr (6, [.int (nI lim), .int (nI rm), .ref y1, .int 6]))]) (wr := []) (w1 := ([(x, .inr (6, [.int (nI lim), .int (nI rm), .ref y1, .int w9]))] ++ (w10 ++ (nz1 ++ fz)))) hP hD [0] [] rfl rfl (by decide) (by decide) hk1 hFc hP1 hD1
        have hK := (hK.sub (tys' := []) [] rfl).app hK1
        generalize H1 = H at hP hS ⊢
        have hP : va_P (dC, dI) vwCl ([(x, .inr (6, [.int (nI lim), .int (nI rm), .ref y1, .int w9]))] ++ (w10 ++ (nz1 ++ fz))) H := hP
        have hD : va_D A ([(x, .inr (6, [.int (nI lim), .int (nI rm), .ref y1, .int w9]))] ++ (w10 ++ (nz1 ++ fz))) := hD
        have hK : va_K (dC, dI) vwCl [(cB, .byte), (cO, .object "java/lang/Object")] s := hK
        obtain ⟨rfl, hn1, hn2, hn3⟩ | ⟨y8, n8, w8, rfl, he8, hf8, hv8⟩ := hw7
        · refine W.eq (g2 := F0 m 22 ls [.null]) rfl ?_
          have hpr : (prfR lim rm os w0) = ((aftR (os.getD i ((0, [], [], []) : Opn)) w1).1, []) := by rw [← hi5, if_neg hn1]
          refine lv_astore_nN hx hb d_PA_perform_22 rfl hl (by decide) rfl (fun ls hl => ?_)
          have hl : lv_has ls 4 [(3, .null), (2, .int (nI i)), (0, .ref x), (1, .ref ol)] := hl
          refine lv_aload_nN hx hb d_PA_perform_23 rfl (lv_at hl 0 rfl) ?_
          refine lv_ifnonnullN hx hb d_PA_perform_24 ?_
          refine lv_aload_n hx hb d_PA_perform_27 rfl (lv_at hl 2 rfl) ?_
          refine va_get (D := (dC, dI)) (ci := 6) (v := .int w9) (C := R_PA) (T := T_PA) (N := 4) hx hb htb in_PA hown hK hP 0 rfl rfl 3 (by decide) (htb _ m_759) (fun _ h9 => h9) rfl d_PA_perform_28 ?_
          have hP := zz_permP (pre := [(x, .inr (6, [.int (nI lim), .int (nI rm), .ref y1, .int w9]))]) (t1 := (w10 ++ (nz1 ++ fz))) (t2 := ((w10 ++ nz1) ++ fz)) hP (pm2 _ _ _)
          have hD := zz_permD (pre := [(x, .inr (6, [.int (nI lim), .int (nI rm), .ref y1, .int w9]))]) (t1 := (w10 ++ (nz1 ++ fz))) (t2 := ((w10 ++ nz1) ++ fz)) hD (pm2 _ _ _)
          have hP9 := zz_pickP (pre := [(x, .inr (6, [.int (nI lim), .int (nI rm), .ref y1, .int w9]))]) (fz := ((w10 ++ nz1) ++ fz)) (wc := [(x, .inr (6, [.int (nI lim), .int (nI rm), .ref y1, .int w9]))]) hP [0] rfl
          have hD9 := zz_pickD (pre := [(x, .inr (6, [.int (nI lim), .int (nI rm), .ref y1, .int w9]))]) (fz := ((w10 ++ nz1) ++ fz)) (wc := [(x, .inr (6, [.int (nI lim), .int (nI rm), .ref y1, .int w9]))]) hD [0] (by decide) rfl
          have hK9 := hK.sub (tys' := [(cB, .byte), (cO, .object "java/lang/Object")]) [0, 1] rfl
          rw [hQ]
          refine W.widen (k := (7 * stS os)) (n := (97 * stS os)) ((by show ((7 * stS (os.take i)) + (7 * ((os.getD i ((0, [], [], []) : Opn)).2.2.1.length + (os.getD i ((0, [], [], []) : Opn)).2.1.length))) ≤ (7 * stS os); omega)) ((by show ((97 * stS (os.take i)) + (97 * ((os.getD i ((0, [], [], []) : Opn)).2.2.1.length + (os.getD i ((0, [], [], []) : Opn)).2.1.length))) ≤ (97 * stS os); omega)) ?_
          exact W.iret (v := w9) hx hb hr (fun t ht hW => ⟨⟨w9, (y1, (w9 : Int32), (w10 ++ nz1)), rfl, ⟨by rw [hpr]; exact hn3, by rw [hpr]; exact hn2, fun h => absurd h (by rw [hpr]; exact hn1)⟩, ⟨by rw [ht]; exact hP9, va_K.moved hW.alike hK9, hD9⟩⟩, hS.F ht⟩) hS.2.2 d_PA_perform_31
        · refine W.eq (g2 := F0 m 22 ls [.ref y8]) rfl ?_
          rw [he8] at hi5 hal9
          have hi5 : (if w8.length ≤ rm ∧ dpt w8 ≤ lim then prfR lim rm (os.drop (i + 1)) w8 else if dpt w8 ≤ lim then (4, []) else (2, [])) = (prfR lim rm os w0) := hi5
          have hal9 : w8.length ≤ 2 * w1.length + (os.getD i ((0, [], [], []) : Opn)).2.2.2.length := hal9
          have hdl := hv8.dle
          rw [hf8] at hP hD
          have hP : va_P (dC, dI) vwCl ([(x, .inr (6, [.int (nI lim), .int (nI rm), .ref y1, .int 6]))] ++ (w10 ++ (nz1 ++ fz))) H := hP
          have hD : va_D A ([(x, .inr (6, [.int (nI lim), .int (nI rm), .ref y1, .int 6]))] ++ (w10 ++ (nz1 ++ fz))) := hD
          obtain ⟨d0, kd0, tx0, nu0, nm0, pa0, dp0, cn0, hm0, hdp0, hcn0⟩ := hv8.cell
          rw [hdp0, hcn0] at hm0
          refine lv_astore_n hx hb d_PA_perform_22 rfl hl (by decide) rfl (fun ls hl => ?_)
          have hl : lv_has ls 4 [(3, .ref y8), (2, .int (nI i)), (0, .ref x), (1, .ref ol)] := hl
          refine lv_aload_n hx hb d_PA_perform_23 rfl (lv_at hl 0 rfl) ?_
          refine lv_ifnonnull (tgt := 32) hx hb d_PA_perform_24 rfl ?_
          refine lv_aload_n hx hb d_PA_perform_32 rfl (lv_at hl 0 rfl) ?_
          obtain ⟨qz11, hz11⟩ := List.getElem?_of_mem (List.mem_append_right [(x, .inr (6, [.int (nI lim), .int (nI rm), .ref y1, .int 6]))] hm0)
          refine va_get (D := (dC, dI)) (ci := 3) (v := .int (nI (dpt w8))) (C := R_VA) (T := T_VA) (N := 7) hx hb htb in_VA hown hK hP qz11 hz11 rfl 5 (by decide) (htb _ m_401) (fun _ h9 => h9) rfl d_PA_perform_33 ?_
          refine lv_aload_n hx hb d_PA_perform_36 rfl (lv_at hl 2 rfl) ?_
          refine va_get (D := (dC, dI)) (ci := 6) (v := .int (nI lim)) (C := R_PA) (T := T_PA) (N := 4) hx hb htb in_PA hown hK hP 0 rfl rfl 0 (by decide) (htb _ m_755) (fun _ h9 => h9) rfl d_PA_perform_37 ?_
          refine lv_icmp_le (tgt := 45) hx hb d_PA_perform_40 rfl (fun h2 => ?_) (fun h2 => ?_)
          · have h2 : dpt w8 ≤ lim := (nI_leI (by omega) (by omega)).mp h2
            refine lv_aload_n hx hb d_PA_perform_45 rfl (lv_at hl 0 rfl) ?_
            obtain ⟨qz12, hz12⟩ := List.getElem?_of_mem (List.mem_append_right [(x, .inr (6, [.int (nI lim), .int (nI rm), .ref y1, .int 6]))] hm0)
            refine va_get (D := (dC, dI)) (ci := 3) (v := .int (nI w8.length)) (C := R_VA) (T := T_VA) (N := 7) hx hb htb in_VA hown hK hP qz12 hz12 rfl 6 (by decide) (htb _ m_404) (fun _ h9 => h9) rfl d_PA_perform_46 ?_
            refine lv_aload_n hx hb d_PA_perform_49 rfl (lv_at hl 2 rfl) ?_
            refine va_get (D := (dC, dI)) (ci := 6) (v := .int (nI rm)) (C := R_PA) (T := T_PA) (N := 4) hx hb htb in_PA hown hK hP 0 rfl rfl 1 (by decide) (htb _ m_756) (fun _ h9 => h9) rfl d_PA_perform_50 ?_
            refine lv_icmp_le (tgt := 58) hx hb d_PA_perform_53 rfl (fun h3 => ?_) (fun h3 => ?_)
            · have h3 : w8.length ≤ rm := (nI_leI (by omega) (by omega)).mp h3
              rw [if_pos ⟨h3, h2⟩] at hi5
              refine lv_aload_n hx hb d_PA_perform_58 rfl (lv_at hl 2 rfl) ?_
              refine lv_aload_n hx hb d_PA_perform_59 rfl (lv_at hl 0 rfl) ?_
              refine va_put (D := (dC, dI)) (ci := 6) (v := .ref y8) (ty := (.object "PatchStore$Value")) (C := R_PA) (T := T_PA) (N := 4) hx hb htb in_PA ty_PA ty_PA_ok nm_PA hown hK hP hD hS 0 rfl rfl 2 (by decide) (htb _ m_757) (fun _ h9 => h9) rfl (by decide +kernel) rfl rfl (Nat.le_of_ble_eq_true rfl) d_PA_perform_60 (fun H locs hP hD hS => ?_)
              have hP : va_P (dC, dI) vwCl ([(x, .inr (6, [.int (nI lim), .int (nI rm), .ref y8, .int 6]))] ++ (w10 ++ (nz1 ++ fz))) H := hP
              have hD : va_D A ([(x, .inr (6, [.int (nI lim), .int (nI rm), .ref y8, .int 6]))] ++ (w10 ++ (nz1 ++ fz))) := hD
              refine lv_iinc (k := 1) (v := ((nI i) + Int32.ofInt 1)) hx hb d_PA_perform_63 hl rfl rfl (by decide) rfl (fun ls hl => ?_)
              have hl : lv_has ls 4 [(2, .int ((nI i) + Int32.ofInt 1)), (3, .ref y8), (0, .ref x), (1, .ref ol)] := hl
              rw [show nI i + Int32.ofInt 1 = nI (i + 1) from nI_1 _] at hl
              have hP := zz_permP (pre := [(x, .inr (6, [.int (nI lim), .int (nI rm), .ref y8, .int 6]))]) (t1 := (w10 ++ (nz1 ++ fz))) (t2 := ((w10 ++ nz1) ++ fz)) hP (pm2 _ _ _)
              have hD := zz_permD (pre := [(x, .inr (6, [.int (nI lim), .int (nI rm), .ref y8, .int 6]))]) (t1 := (w10 ++ (nz1 ++ fz))) (t2 := ((w10 ++ nz1) ++ fz)) hD (pm2 _ _ _)
              refine lv_goto (tgt := 2) hx hb d_PA_perform_66 rfl ?_
              refine W.widen (k := (7 * stS (os.take (i + 1)))) (n := (97 * stS (os.take (i + 1)))) (by omega) (by omega) ?_
              exact ih (xs.length - (i + 1)) (by omega) (i + 1) y8 n8 w8 (w10 ++ nz1) H locs ls rfl (by omega) ((hv8.mono (fun q hq => (pm2 _ _ _).mem_iff.mpr hq)).low h2) (h3) (hi5) (lv_sub hl [0, 2, 3] rfl) (zz_pickP (pre := [(x, .inr (6, [.int (nI lim), .int (nI rm), .ref y8, .int 6]))]) (fz := ((w10 ++ nz1) ++ fz)) (wc := [(x, .inr (6, [.int (nI lim), .int (nI rm), .ref y8, .int 6]))]) hP [0] rfl) (zz_pickD (pre := [(x, .inr (6, [.int (nI lim), .int (nI rm), .ref y8, .int 6]))]) (fz := ((w10 ++ nz1) ++ fz)) (wc := [(x, .inr (6, [.int (nI lim), .int (nI rm), .ref y8, .int 6]))]) hD [0] (by decide) rfl) hS
            · have h3 : ¬ w8.length ≤ rm := fun h => h3 ((nI_leI (by omega) (by omega)).mpr h)
              have hpr : (prfR lim rm os w0) = (4, []) := by rw [← hi5, if_neg (fun h => h3 h.1), if_pos h2]
              refine lv_iconst (v := 4) hx hb d_PA_perform_56 (by decide) ?_
              have hP := zz_permP (pre := [(x, .inr (6, [.int (nI lim), .int (nI rm), .ref y1, .int 6]))]) (t1 := (w10 ++ (nz1 ++ fz))) (t2 := ((w10 ++ nz1) ++ fz)) hP (pm2 _ _ _)
              have hD := zz_permD (pre := [(x, .inr (6, [.int (nI lim), .int (nI rm), .ref y1, .int 6]))]) (t1 := (w10 ++ (nz1 ++ fz))) (t2 := ((w10 ++ nz1) ++ fz)) hD (pm2 _ _ _)
              have hP9 := zz_pickP (pre := [(x, .inr (6, [.int (nI lim), .int (nI rm), .ref y1, .int 6]))]) (fz := ((w10 ++ nz1) ++ fz)) (wc := [(x, .inr (6, [.int (nI lim), .int (nI rm), .ref y1, .int 6]))]) hP [0] rfl
              have hD9 := zz_pickD (pre := [(x, .inr (6, [.int (nI lim), .int (nI rm), .ref y1, .int 6]))]) (fz := ((w10 ++ nz1) ++ fz)) (wc := [(x, .inr (6, [.int (nI lim), .int (nI rm), .ref y1, .int 6]))]) hD [0] (by decide) rfl
              have hK9 := hK.sub (tys' := [(cB, .byte), (cO, .object "java/lang/Object")]) [0, 1] rfl
              rw [hQ]
              refine W.widen (k := (7 * stS os)) (n := (97 * stS os)) ((by show ((7 * stS (os.take i)) + (7 * ((os.getD i ((0, [], [], []) : Opn)).2.2.1.length + (os.getD i ((0, [], [], []) : Opn)).2.1.length))) ≤ (7 * stS os); omega)) ((by show ((97 * stS (os.take i)) + (97 * ((os.getD i ((0, [], [], []) : Opn)).2.2.1.length + (os.getD i ((0, [], [], []) : Opn)).2.1.length))) ≤ (97 * stS os); omega)) ?_
              exact W.iret (v := 4) hx hb hr (fun t ht hW => ⟨⟨4, (y1, (6 : Int32), (w10 ++ nz1)), rfl, ⟨by rw [hpr]; rfl, by rw [hpr]; decide, fun h => absurd h (by rw [hpr]; decide)⟩, ⟨by rw [ht]; exact hP9, va_K.moved hW.alike hK9, hD9⟩⟩, hS.F ht⟩) hS.2.2 d_PA_perform_57
          · have h2 : ¬ dpt w8 ≤ lim := fun h => h2 ((nI_leI (by omega) (by omega)).mpr h)
            have hpr : (prfR lim rm os w0) = (2, []) := by rw [← hi5, if_neg (fun h => h2 h.2), if_neg h2]
            refine lv_iconst (v := 2) hx hb d_PA_perform_43 (by decide) ?_
            have hP := zz_permP (pre := [(x, .inr (6, [.int (nI lim), .int (nI rm), .ref y1, .int 6]))]) (t1 := (w10 ++ (nz1 ++ fz))) (t2 := ((w10 ++ nz1) ++ fz)) hP (pm2 _ _ _)
            have hD := zz_permD (pre := [(x, .inr (6, [.int (nI lim), .int (nI rm), .ref y1, .int 6]))]) (t1 := (w10 ++ (nz1 ++ fz))) (t2 := ((w10 ++ nz1) ++ fz)) hD (pm2 _ _ _)
            have hP9 := zz_pickP (pre := [(x, .inr (6, [.int (nI lim), .int (nI rm), .ref y1, .int 6]))]) (fz := ((w10 ++ nz1) ++ fz)) (wc := [(x, .inr (6, [.int (nI lim), .int (nI rm), .ref y1, .int 6]))]) hP [0] rfl
            have hD9 := zz_pickD (pre := [(x, .inr (6, [.int (nI lim), .int (nI rm), .ref y1, .int 6]))]) (fz := ((w10 ++ nz1) ++ fz)) (wc := [(x, .inr (6, [.int (nI lim), .int (nI rm), .ref y1, .int 6]))]) hD [0] (by decide) rfl
            have hK9 := hK.sub (tys' := [(cB, .byte), (cO, .object "java/lang/Object")]) [0, 1] rfl
            rw [hQ]
            refine W.widen (k := (7 * stS os)) (n := (97 * stS os)) ((by show ((7 * stS (os.take i)) + (7 * ((os.getD i ((0, [], [], []) : Opn)).2.2.1.length + (os.getD i ((0, [], [], []) : Opn)).2.1.length))) ≤ (7 * stS os); omega)) ((by show ((97 * stS (os.take i)) + (97 * ((os.getD i ((0, [], [], []) : Opn)).2.2.1.length + (os.getD i ((0, [], [], []) : Opn)).2.1.length))) ≤ (97 * stS os); omega)) ?_
            exact W.iret (v := 2) hx hb hr (fun t ht hW => ⟨⟨2, (y1, (6 : Int32), (w10 ++ nz1)), rfl, ⟨by rw [hpr]; rfl, by rw [hpr]; decide, fun h => absurd h (by rw [hpr]; decide)⟩, ⟨by rw [ht]; exact hP9, va_K.moved hW.alike hK9, hD9⟩⟩, hS.F ht⟩) hS.2.2 d_PA_perform_44
  refine W.widen (k := (7 * stS (os.take 0))) (n := (97 * stS (os.take 0))) (by omega) (by omega) ?_
  exact hloop _ 0 y n0 w0 ([] : va_W) _ _ ls rfl (Nat.zero_le _) (hv) (hsz) (rfl) (lv_sub hl [0, 1, 2] rfl) (zz_pickP (pre := [(x, .inr (6, [.int (nI lim), .int (nI rm), .ref y, .int 6]))]) (fz := fz) (wc := [(x, .inr (6, [.int (nI lim), .int (nI rm), .ref y, .int 6]))]) hP [0] rfl) (zz_pickD (pre := [(x, .inr (6, [.int (nI lim), .int (nI rm), .ref y, .int 6]))]) (fz := fz) (wc := [(x, .inr (6, [.int (nI lim), .int (nI rm), .ref y, .int 6]))]) hD [0] (by decide) rfl) hS
set_option maxHeartbeats 1000000 in
set_option maxRecDepth 100000 in
/-- Patcher(document, limit, room) -/
theorem k_PA_init (l : Launch) (dC : Nat → ClassId) (dI : Nat → Nat → Nat) (sz : Nat) (x : Nat) (y : Nat) (lim : Nat) (rm : Nat) : Met l y_PA_init ws_PA_init ({ frames := 1, cells := 0, slots := 0, locals := 12 }) (va_Pc [.ref x, .ref y, .int (nI lim), .int (nI rm)] (fun U => U.heap.size = sz ∧ va_P (dC, dI) vwCl [(x, .inr (6, [.int 0, .int 0, .null, .int 0]))] U.heap ∧ va_K (dC, dI) vwCl [] U ∧ va_D (fun _ => True) [(x, .inr (6, [.int 0, .int 0, .null, .int 0]))])) (va_Qv (fun (u : Unit) => True) (fun u t => va_P (dC, dI) vwCl [(x, .inr (6, [.int (nI lim), .int (nI rm), .ref y, .int 6]))] t.heap ∧ va_K (dC, dI) vwCl [] t ∧ va_D (va_A [(x, .inr (6, [.int 0, .int 0, .null, .int 0]))] sz) [(x, .inr (6, [.int (nI lim), .int (nI rm), .ref y, .int 6]))]) (va_A [(x, .inr (6, [.int 0, .int 0, .null, .int 0]))] sz)) 0 0 (va_A [(x, .inr (6, [.int 0, .int 0, .null, .int 0]))] sz) := by
  refine Met.ofW (cc := c_PA_init) (maxL := 4) (ret := none) (by decide) rfl ?_
  intro p e s m args below meth c s₁ B hml hv
  obtain ⟨rfl, hsz, hP, hK, hD0⟩ := hv
  have hx := B.exec
  have hb := B.bytes
  have hr := B.returns
  have hts := atoms_spec (ws := ws_PA_init) B.pre
  have htb := fun w (h : w ∈ TBL) => hts w (List.mem_cons_of_mem _ h)
  have hown : s.vm.findClass R_PA = some m.cls := findClass_of_methodNamed B.named
  have hlocks := B.notSynchronized
  have hin : meth.name = "<init>" := (name_of_methodNamed B.named B.method).1
  subst hsz
  have hD := hD0.self (sz := s.heap.size)
  generalize hAe : va_A [(x, .inr (6, [.int 0, .int 0, .null, .int 0]))] s.heap.size = A at hD ⊢
  have hA : ∀ q : Nat, s.heap.size ≤ q → A q := fun q h => by rw [← hAe]; exact Or.inr h
  have hS : va_S A s.heap s.heap [] := va_S.rf
  have hP : va_P (dC, dI) vwCl [(x, .inr (6, [.int 0, .int 0, .null, .int 0]))] s.heap := hP
  have hl := lv_entry ([.ref x, .ref y, .int (nI lim), .int (nI rm)]) (n := 4) (Nat.le_of_ble_eq_true rfl)
  rw [lg_entry_eq]
  generalize (lg_sl ([.ref x, .ref y, .int (nI lim), .int (nI rm)]) ++ List.replicate (4 - (lg_sl ([.ref x, .ref y, .int (nI lim), .int (nI rm)])).length) Slot.unset).toArray = ls at hl ⊢
  have hl : lv_has ls 4 [(0, .ref x), (1, .ref y), (2, .int (nI lim)), (3, .int (nI rm))] := hl
  refine lv_aload_n hx hb d_PA_init_0 rfl (lv_at hl 0 rfl) ?_
  refine W.objInit hx hb hown (htb _ m_754) (htb _ m_35) (htb _ m_36) rfl (by rw [hml]; exact hl.1) rfl d_PA_init_1 (Nat.le_of_ble_eq_true rfl) (Nat.le_of_ble_eq_true rfl) ?_
  refine W.eq (g2 := F0 m 4 ls []) rfl ?_
  refine lv_aload_n hx hb d_PA_init_4 rfl (lv_at hl 0 rfl) ?_
  refine lv_bipush (v := 6) hx hb d_PA_init_5 (by decide) ?_
  refine va_put (D := (dC, dI)) (ci := 6) (v := .int 6) (ty := .int) (C := R_PA) (T := T_PA) (N := 4) hx hb htb in_PA ty_PA ty_PA_ok nm_PA hown hK hP hD hS 0 rfl rfl 3 (by decide) (htb _ m_759) (fun _ h9 => h9) rfl (by decide +kernel) rfl rfl (Nat.le_of_ble_eq_true rfl) d_PA_init_7 (fun H locs hP hD hS => ?_)
  have hP : va_P (dC, dI) vwCl [(x, .inr (6, [.int 0, .int 0, .null, .int 6]))] H := hP
  have hD : va_D A [(x, .inr (6, [.int 0, .int 0, .null, .int 6]))] := hD
  refine lv_aload_n hx hb d_PA_init_10 rfl (lv_at hl 0 rfl) ?_
  refine lv_aload_n hx hb d_PA_init_11 rfl (lv_at hl 1 rfl) ?_
  refine va_put (D := (dC, dI)) (ci := 6) (v := .ref y) (ty := (.object "PatchStore$Value")) (C := R_PA) (T := T_PA) (N := 4) hx hb htb in_PA ty_PA ty_PA_ok nm_PA hown hK hP hD hS 0 rfl rfl 2 (by decide) (htb _ m_757) (fun _ h9 => h9) rfl (by decide +kernel) rfl rfl (Nat.le_of_ble_eq_true rfl) d_PA_init_12 (fun H locs hP hD hS => ?_)
  have hP : va_P (dC, dI) vwCl [(x, .inr (6, [.int 0, .int 0, .ref y, .int 6]))] H := hP
  have hD : va_D A [(x, .inr (6, [.int 0, .int 0, .ref y, .int 6]))] := hD
  refine lv_aload_n hx hb d_PA_init_15 rfl (lv_at hl 0 rfl) ?_
  refine lv_iload_n hx hb d_PA_init_16 rfl (lv_at hl 2 rfl) ?_
  refine va_putF (D := (dC, dI)) (ci := 6) (v := .int (nI lim)) (ty := .int) (C := R_PA) (T := T_PA) (N := 4) hx hb htb in_PA ty_PA ty_PA_ok nm_PA hown hK hP hD hS 0 rfl rfl 0 (by decide) (htb _ m_755) (fun _ h9 => h9) rfl hin rfl (by decide +kernel) rfl rfl (Nat.le_of_ble_eq_true rfl) d_PA_init_17 (fun H locs hP hD hS => ?_)
  have hP : va_P (dC, dI) vwCl [(x, .inr (6, [.int (nI lim), .int 0, .ref y, .int 6]))] H := hP
  have hD : va_D A [(x, .inr (6, [.int (nI lim), .int 0, .ref y, .int 6]))] := hD
  refine lv_aload_n hx hb d_PA_init_20 rfl (lv_at hl 0 rfl) ?_
  refine lv_iload_n hx hb d_PA_init_21 rfl (lv_at hl 3 rfl) ?_
  refine va_putF (D := (dC, dI)) (ci := 6) (v := .int (nI rm)) (ty := .int) (C := R_PA) (T := T_PA) (N := 4) hx hb htb in_PA ty_PA ty_PA_ok nm_PA hown hK hP hD hS 0 rfl rfl 1 (by decide) (htb _ m_756) (fun _ h9 => h9) rfl hin rfl (by decide +kernel) rfl rfl (Nat.le_of_ble_eq_true rfl) d_PA_init_22 (fun H locs hP hD hS => ?_)
  have hP : va_P (dC, dI) vwCl [(x, .inr (6, [.int (nI lim), .int (nI rm), .ref y, .int 6]))] H := hP
  have hD : va_D A [(x, .inr (6, [.int (nI lim), .int (nI rm), .ref y, .int 6]))] := hD
  have hP9 := hP.sub (ws' := [(x, .inr (6, [.int (nI lim), .int (nI rm), .ref y, .int 6]))]) [0] rfl
  have hD9 := hD.sub (ws' := [(x, .inr (6, [.int (nI lim), .int (nI rm), .ref y, .int 6]))]) [0] (by decide) rfl
  have hK9 := hK.sub (tys' := []) [] rfl
  refine W.widen (k := 0) (n := 0) (Nat.le_of_ble_eq_true rfl) (Nat.le_of_ble_eq_true rfl) ?_
  exact W.vret hx hb hr (fun t ht hW => ⟨⟨(), rfl, trivial, ⟨by rw [ht]; exact hP9, va_K.moved hW.alike hK9, hD9⟩⟩, hS.F ht⟩) hS.2.2 d_PA_init_25
