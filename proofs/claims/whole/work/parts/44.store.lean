/-! the store's own calls -/
/-- what a place of the store holds against the document there -/
def DOCz (cB cO : ClassId) (em : Nat) (aK : Nat → Nat) (tl : va_W) (o : Option Nat) (D : Option (List Row)) : Prop := (o = none ∧ D = none) ∨ ∃ (a : Nat) (nn : List Nat) (rows : List Row), o = some a ∧ D = some rows ∧ VT cB cO em aK 13 tl a nn rows
theorem DOCz.mono {cB cO : ClassId} {em : Nat} {aK : Nat → Nat} {tl tl' : va_W} {o : Option Nat} {D : Option (List Row)} (h : DOCz cB cO em aK tl o D) (hs : ∀ q ∈ tl, q ∈ tl') : DOCz cB cO em aK tl' o D := by
  rcases h with h | ⟨a, nn, rows, h1, h2, h3⟩
  · exact Or.inl h
  · exact Or.inr ⟨a, nn, rows, h1, h2, h3.mono hs⟩
/-- the document that a number of a call means -/
def docK (D : Nat → Option (List Row)) (k : Int32) : Option (List Row) := if k < 0 ∨ 3 ≤ k then none else D k.toNatClampNeg
theorem i3 {k : Int32} (h1 : ¬ k < 0) (h2 : ¬ 3 ≤ k) : k.toNatClampNeg < 3 ∧ k = nI k.toNatClampNeg := by
  have a1 : 0 ≤ k.toInt := by simpa using Int32.le_iff_toInt_le.mp (Int32.not_lt.mp h1)
  have a2 : k.toInt < 3 := by
    have := Int32.lt_iff_toInt_lt.mp (Int32.not_le.mp h2)
    simpa using this
  have e : k.toNatClampNeg = k.toInt.toNat := rfl
  refine ⟨by rw [e]; omega, ?_⟩
  apply Int32.toInt_inj.mp
  rw [nI_toInt (by rw [e]; omega), e]
  omega
theorem i3_in {k : Int32} (h1 : ¬ k < 0) (h2 : ¬ 3 ≤ k) : vp_in k 3 := fun h => h.elim h1 (fun h => absurd (i3 h1 h2).1 (Nat.not_lt.mpr h))
theorem zz_anyV {em : Nat} {aK aV : Nat → Nat} {A : Nat → Prop} {H0 : Heap} {dC : Nat → ClassId} {dI : Nat → Nat → Nat} {tys : List (ClassId × FieldType)} {ws : va_W} {s : State} {H : Heap} {y : Nat} (hE : EX em aK aV A s H0) (hK : va_K (dC, dI) vwCl tys s) (hP : va_P (dC, dI) vwCl ws H) (h : Vin 3 ws y) : va_Any "PatchStore$Value" s H y := by
  obtain ⟨fs, hm⟩ := h
  obtain ⟨q0, he⟩ := List.getElem?_of_mem hm
  obtain ⟨c0, t0, g1, g2, g3⟩ := Cond.castable_spec (va_Nw.use (A := #[]) rfl (nw_14 hE))
  exact va_rAny hK hP he (r := ("PatchStore$Value", T_VA, 7)) rfl (fun comp c1 h1 h2 => by
    cases g1.symm.trans h2
    cases g2.symm.trans h1
    exact g3)
/-- what put answers -/
def putC (lim rm : Nat) (L : List Nat) : Nat := if (whl lim L).1 = 0 then (if (whl lim L).2.length ≤ rm then 0 else 4) else (whl lim L).1
theorem dk_of {cB cO : ClassId} {em : Nat} {aK : Nat → Nat} {fz : va_W} {h : Nat → Option Nat} {D : Nat → Option (List Row)} {k : Int32} {r : Option Nat} (hdoc : ∀ i, i < 3 → DOCz cB cO em aK fz (h i) (D i)) (hr : ((k < 0 ∨ 3 ≤ k) ∧ r = none) ∨ (¬ (k < 0 ∨ 3 ≤ k) ∧ r = h k.toNatClampNeg)) : (r = none ∧ docK D k = none) ∨ ∃ (a9 : Nat) (n9 : List Nat) (w9 : List Row), r = some a9 ∧ docK D k = some w9 ∧ VT cB cO em aK 13 fz a9 n9 w9 ∧ h k.toNatClampNeg = some a9 ∧ ¬ k < 0 ∧ ¬ 3 ≤ k := by
  rcases hr with ⟨h1, h2⟩ | ⟨h1, h2⟩
  · exact Or.inl ⟨h2, if_pos h1⟩
  · have h3 : ¬ k < 0 := fun h => h1 (Or.inl h)
    have h4 : ¬ 3 ≤ k := fun h => h1 (Or.inr h)
    rcases hdoc _ (i3 h3 h4).1 with ⟨g1, g2⟩ | ⟨a, nn, rows, g1, g2, g3⟩
    · exact Or.inl ⟨h2.trans g1, (if_neg h1).trans g2⟩
    · exact Or.inr ⟨a, nn, rows, h2.trans g1, (if_neg h1).trans g2, g3, g1, h3, h4⟩
theorem in_of {k : Int32} {n : Nat} (h1 : ¬ k < 0) (h2 : k < nI n) (hn : n < 2 ^ 31) : k.toNatClampNeg < n ∧ k = nI k.toNatClampNeg := by
  have a1 : 0 ≤ k.toInt := by simpa using Int32.le_iff_toInt_le.mp (Int32.not_lt.mp h1)
  have a2 : k.toInt < (n : Int) := by
    have := Int32.lt_iff_toInt_lt.mp h2
    rwa [nI_toInt hn] at this
  have e : k.toNatClampNeg = k.toInt.toNat := rfl
  refine ⟨by rw [e]; omega, ?_⟩
  apply Int32.toInt_inj.mp
  rw [nI_toInt (by rw [e]; omega), e]
  omega
set_option maxHeartbeats 1000000 in
set_option maxRecDepth 100000 in
/-- documentAt(d) -/
theorem q_PS_documentAt (l : Launch) (dC : Nat → ClassId) (dI : Nat → Nat → Nat) (x : Nat) (lim : Nat) (rm : Nat) (dl : Nat) (sb : Nat) (dc : Nat) (cm : Nat) (fo : Nat) (n : Nat) (cV : ClassId) (h : Nat → Option Nat) (k : Int32) : Met l y_PS_documentAt ws_PS_documentAt ({ frames := 0, cells := 0, slots := 0, locals := 0 }) (va_Pc [.ref x, .int k] (fun U => va_P (dC, dI) vwCl [(x, .inr (0, [.int (nI lim), .int (nI rm), .ref dl, .int (nI n), .ref sb, .ref dc, .ref cm, .ref fo])), (dc, .inl (cV, 3, .inr (.inr (.inr (.inr h)))))] U.heap ∧ va_K (dC, dI) vwCl [(cV, .object "PatchStore$Value")] U)) (va_Sq (fun (r : Option Nat) => ((k < 0 ∨ 3 ≤ k) ∧ r = none) ∨ (¬ (k < 0 ∨ 3 ≤ k) ∧ r = h k.toNatClampNeg))) 0 0 (fun _ => False) := by
  refine Met.ofW (cc := c_PS_documentAt) (maxL := 2) (ret := (some (.object "PatchStore$Value"))) (by decide) rfl ?_
  intro p e s m args below meth c s₁ B hml hv
  obtain ⟨rfl, hP, hK⟩ := hv
  have hx := B.exec
  have hb := B.bytes
  have hr := B.returns
  have hts := atoms_spec (ws := ws_PS_documentAt) B.pre
  have htb := fun w (h : w ∈ TBL) => hts w (List.mem_cons_of_mem _ h)
  have hown : s.vm.findClass R_PS = some m.cls := findClass_of_methodNamed B.named
  have hlocks := B.notSynchronized
  have hl := lv_entry ([.ref x, .int k]) (n := 2) (Nat.le_of_ble_eq_true rfl)
  rw [lg_entry_eq]
  generalize (lg_sl ([.ref x, .int k]) ++ List.replicate (2 - (lg_sl ([.ref x, .int k])).length) Slot.unset).toArray = ls at hl ⊢
  have hl : lv_has ls 2 [(0, .ref x), (1, .int k)] := hl
  refine lv_iload_n hx hb d_PS_documentAt_0 rfl (lv_at hl 1 rfl) ?_
  refine lv_if_lt (tgt := 18) hx hb d_PS_documentAt_1 rfl (fun h1 => ?_) (fun h1 => ?_)
  · refine lv_null hx hb d_PS_documentAt_18 ?_
    exact W.aret (v := .null) hx hb hr (Or.inl ⟨_, rfl⟩) (Or.inl rfl) (fun t ht hW => ⟨none, rfl, Or.inl ⟨Or.inl h1, rfl⟩, ht⟩) (fun q h => absurd h List.not_mem_nil) d_PS_documentAt_19
  · refine lv_iload_n hx hb d_PS_documentAt_4 rfl (lv_at hl 1 rfl) ?_
    refine lv_iconst (v := 3) hx hb d_PS_documentAt_5 (by decide) ?_
    refine lv_icmp_ge (tgt := 18) hx hb d_PS_documentAt_6 rfl (fun h2 => ?_) (fun h2 => ?_)
    · refine lv_null hx hb d_PS_documentAt_18 ?_
      exact W.aret (v := .null) hx hb hr (Or.inl ⟨_, rfl⟩) (Or.inl rfl) (fun t ht hW => ⟨none, rfl, Or.inl ⟨Or.inr h2, rfl⟩, ht⟩) (fun q h => absurd h List.not_mem_nil) d_PS_documentAt_19
    · refine lv_aload_n hx hb d_PS_documentAt_9 rfl (lv_at hl 0 rfl) ?_
      refine va_get (D := (dC, dI)) (ci := 0) (v := .ref dc) (C := R_PS) (T := T_PS) (N := 8) hx hb htb in_PS hown hK hP 0 rfl rfl 5 (by decide) (htb _ m_104) (fun _ h9 => h9) rfl d_PS_documentAt_10 ?_
      refine lv_iload_n hx hb d_PS_documentAt_13 rfl (lv_at hl 1 rfl) ?_
      refine va_aldq hx hb hK hP 1 0 rfl rfl (i3_in h1 h2) d_PS_documentAt_14 ?_
      refine lv_goto (tgt := 19) hx hb d_PS_documentAt_15 rfl ?_
      exact W.aret (v := va_rf (h k.toNatClampNeg)) hx hb hr (Or.inl ⟨_, rfl⟩) (by cases ((h k.toNatClampNeg)) with | none => exact Or.inl rfl | some a => exact Or.inr ⟨_, rfl⟩) (fun t ht hW => ⟨(h k.toNatClampNeg), rfl, Or.inr ⟨fun h9 => h9.elim h1 h2, rfl⟩, ht⟩) (fun q h => absurd h List.not_mem_nil) d_PS_documentAt_19
set_option maxHeartbeats 1000000 in
set_option maxRecDepth 100000 in
/-- depth(d) -/
theorem k_PS_depth (l : Launch) (dC : Nat → ClassId) (dI : Nat → Nat → Nat) (sz : Nat) (x : Nat) (lim : Nat) (rm : Nat) (dl : Nat) (sb : Nat) (dc : Nat) (cm : Nat) (fo : Nat) (n : Nat) (cV : ClassId) (h : Nat → Option Nat) (D : Nat → Option (List Row)) (cB : ClassId) (cO : ClassId) (k : Int32) (em : Nat) (aK : Nat → Nat) (aV : Nat → Nat) (fz : va_W) (hdoc : ∀ i, i < 3 → DOCz cB cO em aK fz (h i) (D i)) : Met l y_PS_depth ws_PS_depth ({ frames := 1, cells := 0, slots := 0, locals := 21 }) (va_Pc [.ref x, .int k] (fun U => U.heap.size = sz ∧ va_P (dC, dI) vwCl ([(x, .inr (0, [.int (nI lim), .int (nI rm), .ref dl, .int (nI n), .ref sb, .ref dc, .ref cm, .ref fo])), (dc, .inl (cV, 3, .inr (.inr (.inr (.inr h)))))] ++ fz) U.heap ∧ va_K (dC, dI) vwCl [(cV, .object "PatchStore$Value")] U ∧ va_D (fun _ => True) ([(x, .inr (0, [.int (nI lim), .int (nI rm), .ref dl, .int (nI n), .ref sb, .ref dc, .ref cm, .ref fo])), (dc, .inl (cV, 3, .inr (.inr (.inr (.inr h)))))] ++ fz))) (va_Qi (fun (r : Int32) (u : Unit) => r = (match docK D k with | none => -1 | some w => nI (dpt w))) (fun u t => va_P (dC, dI) vwCl ([(x, .inr (0, [.int (nI lim), .int (nI rm), .ref dl, .int (nI n), .ref sb, .ref dc, .ref cm, .ref fo])), (dc, .inl (cV, 3, .inr (.inr (.inr (.inr h)))))] ++ fz) t.heap ∧ va_K (dC, dI) vwCl [(cV, .object "PatchStore$Value")] t ∧ va_D (va_A ([(x, .inr (0, [.int (nI lim), .int (nI rm), .ref dl, .int (nI n), .ref sb, .ref dc, .ref cm, .ref fo])), (dc, .inl (cV, 3, .inr (.inr (.inr (.inr h)))))] ++ fz) sz) ([(x, .inr (0, [.int (nI lim), .int (nI rm), .ref dl, .int (nI n), .ref sb, .ref dc, .ref cm, .ref fo])), (dc, .inl (cV, 3, .inr (.inr (.inr (.inr h)))))] ++ fz)) (va_A ([(x, .inr (0, [.int (nI lim), .int (nI rm), .ref dl, .int (nI n), .ref sb, .ref dc, .ref cm, .ref fo])), (dc, .inl (cV, 3, .inr (.inr (.inr (.inr h)))))] ++ fz) sz)) 0 0 (va_A ([(x, .inr (0, [.int (nI lim), .int (nI rm), .ref dl, .int (nI n), .ref sb, .ref dc, .ref cm, .ref fo])), (dc, .inl (cV, 3, .inr (.inr (.inr (.inr h)))))] ++ fz) sz) := by
  refine Met.ofW (cc := c_PS_depth) (maxL := 3) (ret := (some .int)) (by decide) rfl ?_
  intro p e s m args below meth c s₁ B hml hv
  obtain ⟨rfl, hsz, hP, hK, hD0⟩ := hv
  have hx := B.exec
  have hb := B.bytes
  have hr := B.returns
  have hts := atoms_spec (ws := ws_PS_depth) B.pre
  have htb := fun w (h : w ∈ TBL) => hts w (List.mem_cons_of_mem _ h)
  have hown : s.vm.findClass R_PS = some m.cls := findClass_of_methodNamed B.named
  have hlocks := B.notSynchronized
  subst hsz
  have hD := hD0.self (sz := s.heap.size)
  generalize hAe : va_A ([(x, .inr (0, [.int (nI lim), .int (nI rm), .ref dl, .int (nI n), .ref sb, .ref dc, .ref cm, .ref fo])), (dc, .inl (cV, 3, .inr (.inr (.inr (.inr h)))))] ++ fz) s.heap.size = A at hD ⊢
  have hA : ∀ q : Nat, s.heap.size ≤ q → A q := fun q h => by rw [← hAe]; exact Or.inr h
  have hS : va_S A s.heap s.heap [] := va_S.rf
  have hP : va_P (dC, dI) vwCl ([(x, .inr (0, [.int (nI lim), .int (nI rm), .ref dl, .int (nI n), .ref sb, .ref dc, .ref cm, .ref fo])), (dc, .inl (cV, 3, .inr (.inr (.inr (.inr h)))))] ++ fz) s.heap := hP
  have hl := lv_entry ([.ref x, .int k]) (n := 3) (Nat.le_of_ble_eq_true rfl)
  rw [lg_entry_eq]
  generalize (lg_sl ([.ref x, .int k]) ++ List.replicate (3 - (lg_sl ([.ref x, .int k])).length) Slot.unset).toArray = ls at hl ⊢
  have hl : lv_has ls 3 [(0, .ref x), (1, .int k)] := hl
  refine lv_aload_n hx hb d_PS_depth_0 rfl (lv_at hl 0 rfl) ?_
  refine lv_iload_n hx hb d_PS_depth_1 rfl (lv_at hl 1 rfl) ?_
  have hPc : va_P (dC, dI) vwCl [(x, .inr (0, [.int (nI lim), .int (nI rm), .ref dl, .int (nI n), .ref sb, .ref dc, .ref cm, .ref fo])), (dc, .inl (cV, 3, .inr (.inr (.inr (.inr h)))))] _ := hP.sub (ws' := [(x, .inr (0, [.int (nI lim), .int (nI rm), .ref dl, .int (nI n), .ref sb, .ref dc, .ref cm, .ref fo])), (dc, .inl (cV, 3, .inr (.inr (.inr (.inr h)))))]) [0, 1] rfl
  have hKc := hK.sub (tys' := [(cV, .object "PatchStore$Value")]) [0] rfl
  refine va_csq (W.runV (As := [.int k]) (rest := []) ⟨hx, hb, hml, hown, htb⟩ (q_PS_documentAt l dC dI x lim rm dl sb dc cm fo n cV h k ) (cwV 1 htb (g_V (fun _ h => h) m_577 m_574 m_576 m_1633 m_1) rfl rfl rfl (by decide +kernel) ⟨Nat.le_of_ble_eq_true rfl, Nat.le_of_ble_eq_true rfl⟩) ⟨fun a U g mk q => by obtain ⟨q0, qP, qK⟩ := q; exact ⟨q0, qP, va_K.moved (u := U) (U := U.calling g mk a) (Vm.Alike.refl U.vm) qK⟩, va_recv hKc hPc (ci := 0) rfl (q0 := 0) rfl, fun U hU hW => ⟨rfl, by rw [hU]; exact hPc, va_K.moved hW.alike hKc⟩⟩ rfl rfl hl.1 rfl (lv_room (Nat.le_of_ble_eq_true rfl)) d_PS_depth_2 ⟨Nat.le_of_ble_eq_true rfl, Nat.le_of_ble_eq_true rfl⟩) (fun r1 hw2 => ?_)
  have hw2 : ((k < 0 ∨ 3 ≤ k) ∧ r1 = none) ∨ (¬ (k < 0 ∨ 3 ≤ k) ∧ r1 = h k.toNatClampNeg) := hw2
  have hdk : (r1 = none ∧ docK D k = none) ∨ ∃ (a9 : Nat) (n9 : List Nat) (w9 : List Row), r1 = some a9 ∧ docK D k = some w9 ∧ VT cB cO em aK 13 fz a9 n9 w9 ∧ h k.toNatClampNeg = some a9 ∧ ¬ k < 0 ∧ ¬ 3 ≤ k := dk_of hdoc hw2
  rcases hdk with ⟨rfl, hdk⟩ | ⟨a9, n9, w9, rfl, hdk, hv9, hh9, hk0, hk3⟩
  · refine W.eq (g2 := F0 m 5 ls [.null]) rfl ?_
    refine lv_astore_nN hx hb d_PS_depth_5 rfl hl (by decide) rfl (fun ls hl => ?_)
    have hl : lv_has ls 3 [(2, .null), (0, .ref x), (1, .int k)] := hl
    refine lv_aload_nN hx hb d_PS_depth_6 rfl (lv_at hl 0 rfl) ?_
    refine lv_ifnonnullN hx hb d_PS_depth_7 ?_
    refine lv_iconst (v := (-1)) hx hb d_PS_depth_10 (by decide) ?_
    refine lv_goto (tgt := 18) hx hb d_PS_depth_11 rfl ?_
    have hP9 := zz_pickP (pre := [(x, .inr (0, [.int (nI lim), .int (nI rm), .ref dl, .int (nI n), .ref sb, .ref dc, .ref cm, .ref fo])), (dc, .inl (cV, 3, .inr (.inr (.inr (.inr h)))))]) (fz := fz) (wc := [(x, .inr (0, [.int (nI lim), .int (nI rm), .ref dl, .int (nI n), .ref sb, .ref dc, .ref cm, .ref fo])), (dc, .inl (cV, 3, .inr (.inr (.inr (.inr h)))))]) hP [0, 1] rfl
    have hD9 := zz_pickD (pre := [(x, .inr (0, [.int (nI lim), .int (nI rm), .ref dl, .int (nI n), .ref sb, .ref dc, .ref cm, .ref fo])), (dc, .inl (cV, 3, .inr (.inr (.inr (.inr h)))))]) (fz := fz) (wc := [(x, .inr (0, [.int (nI lim), .int (nI rm), .ref dl, .int (nI n), .ref sb, .ref dc, .ref cm, .ref fo])), (dc, .inl (cV, 3, .inr (.inr (.inr (.inr h)))))]) hD [0, 1] (by decide) rfl
    have hK9 := hK.sub (tys' := [(cV, .object "PatchStore$Value")]) [0] rfl
    refine W.widen (k := 0) (n := 0) (Nat.le_of_ble_eq_true rfl) (Nat.le_of_ble_eq_true rfl) ?_
    exact W.iret (v := (-1)) hx hb hr (fun t ht hW => ⟨⟨(-1), (), rfl, by rw [hdk], ⟨by rw [ht]; exact hP9, va_K.moved hW.alike hK9, hD9⟩⟩, hS.F ht⟩) hS.2.2 d_PS_depth_18
  · refine W.eq (g2 := F0 m 5 ls [.ref a9]) rfl ?_
    refine lv_astore_n hx hb d_PS_depth_5 rfl hl (by decide) rfl (fun ls hl => ?_)
    have hl : lv_has ls 3 [(2, .ref a9), (0, .ref x), (1, .int k)] := hl
    refine lv_aload_n hx hb d_PS_depth_6 rfl (lv_at hl 0 rfl) ?_
    refine lv_ifnonnull (tgt := 14) hx hb d_PS_depth_7 rfl ?_
    obtain ⟨d0, kd0, tx0, nu0, nm0, pa0, dp0, cn0, hm0, hdp0, hcn0⟩ := hv9.cell
    refine lv_aload_n hx hb d_PS_depth_14 rfl (lv_at hl 0 rfl) ?_
    obtain ⟨qz3, hz3⟩ := List.getElem?_of_mem (List.mem_append_right [(x, .inr (0, [.int (nI lim), .int (nI rm), .ref dl, .int (nI n), .ref sb, .ref dc, .ref cm, .ref fo])), (dc, .inl (cV, 3, .inr (.inr (.inr (.inr h)))))] hm0)
    refine va_get (D := (dC, dI)) (ci := 3) (v := .int dp0) (C := R_VA) (T := T_VA) (N := 7) hx hb htb in_VA hown hK hP qz3 hz3 rfl 5 (by decide) (htb _ m_402) (fun _ h9 => h9) rfl d_PS_depth_15 ?_
    have hP9 := zz_pickP (pre := [(x, .inr (0, [.int (nI lim), .int (nI rm), .ref dl, .int (nI n), .ref sb, .ref dc, .ref cm, .ref fo])), (dc, .inl (cV, 3, .inr (.inr (.inr (.inr h)))))]) (fz := fz) (wc := [(x, .inr (0, [.int (nI lim), .int (nI rm), .ref dl, .int (nI n), .ref sb, .ref dc, .ref cm, .ref fo])), (dc, .inl (cV, 3, .inr (.inr (.inr (.inr h)))))]) hP [0, 1] rfl
    have hD9 := zz_pickD (pre := [(x, .inr (0, [.int (nI lim), .int (nI rm), .ref dl, .int (nI n), .ref sb, .ref dc, .ref cm, .ref fo])), (dc, .inl (cV, 3, .inr (.inr (.inr (.inr h)))))]) (fz := fz) (wc := [(x, .inr (0, [.int (nI lim), .int (nI rm), .ref dl, .int (nI n), .ref sb, .ref dc, .ref cm, .ref fo])), (dc, .inl (cV, 3, .inr (.inr (.inr (.inr h)))))]) hD [0, 1] (by decide) rfl
    have hK9 := hK.sub (tys' := [(cV, .object "PatchStore$Value")]) [0] rfl
    refine W.widen (k := 0) (n := 0) (Nat.le_of_ble_eq_true rfl) (Nat.le_of_ble_eq_true rfl) ?_
    exact W.iret (v := dp0) hx hb hr (fun t ht hW => ⟨⟨dp0, (), rfl, by rw [hdk]; exact hdp0, ⟨by rw [ht]; exact hP9, va_K.moved hW.alike hK9, hD9⟩⟩, hS.F ht⟩) hS.2.2 d_PS_depth_18
set_option maxHeartbeats 1000000 in
set_option maxRecDepth 100000 in
/-- count(d) -/
theorem k_PS_count (l : Launch) (dC : Nat → ClassId) (dI : Nat → Nat → Nat) (sz : Nat) (x : Nat) (lim : Nat) (rm : Nat) (dl : Nat) (sb : Nat) (dc : Nat) (cm : Nat) (fo : Nat) (n : Nat) (cV : ClassId) (h : Nat → Option Nat) (D : Nat → Option (List Row)) (cB : ClassId) (cO : ClassId) (k : Int32) (em : Nat) (aK : Nat → Nat) (aV : Nat → Nat) (fz : va_W) (hdoc : ∀ i, i < 3 → DOCz cB cO em aK fz (h i) (D i)) : Met l y_PS_count ws_PS_count ({ frames := 1, cells := 0, slots := 0, locals := 21 }) (va_Pc [.ref x, .int k] (fun U => U.heap.size = sz ∧ va_P (dC, dI) vwCl ([(x, .inr (0, [.int (nI lim), .int (nI rm), .ref dl, .int (nI n), .ref sb, .ref dc, .ref cm, .ref fo])), (dc, .inl (cV, 3, .inr (.inr (.inr (.inr h)))))] ++ fz) U.heap ∧ va_K (dC, dI) vwCl [(cV, .object "PatchStore$Value")] U ∧ va_D (fun _ => True) ([(x, .inr (0, [.int (nI lim), .int (nI rm), .ref dl, .int (nI n), .ref sb, .ref dc, .ref cm, .ref fo])), (dc, .inl (cV, 3, .inr (.inr (.inr (.inr h)))))] ++ fz))) (va_Qi (fun (r : Int32) (u : Unit) => r = (match docK D k with | none => 0 | some w => nI w.length)) (fun u t => va_P (dC, dI) vwCl ([(x, .inr (0, [.int (nI lim), .int (nI rm), .ref dl, .int (nI n), .ref sb, .ref dc, .ref cm, .ref fo])), (dc, .inl (cV, 3, .inr (.inr (.inr (.inr h)))))] ++ fz) t.heap ∧ va_K (dC, dI) vwCl [(cV, .object "PatchStore$Value")] t ∧ va_D (va_A ([(x, .inr (0, [.int (nI lim), .int (nI rm), .ref dl, .int (nI n), .ref sb, .ref dc, .ref cm, .ref fo])), (dc, .inl (cV, 3, .inr (.inr (.inr (.inr h)))))] ++ fz) sz) ([(x, .inr (0, [.int (nI lim), .int (nI rm), .ref dl, .int (nI n), .ref sb, .ref dc, .ref cm, .ref fo])), (dc, .inl (cV, 3, .inr (.inr (.inr (.inr h)))))] ++ fz)) (va_A ([(x, .inr (0, [.int (nI lim), .int (nI rm), .ref dl, .int (nI n), .ref sb, .ref dc, .ref cm, .ref fo])), (dc, .inl (cV, 3, .inr (.inr (.inr (.inr h)))))] ++ fz) sz)) 0 0 (va_A ([(x, .inr (0, [.int (nI lim), .int (nI rm), .ref dl, .int (nI n), .ref sb, .ref dc, .ref cm, .ref fo])), (dc, .inl (cV, 3, .inr (.inr (.inr (.inr h)))))] ++ fz) sz) := by
  refine Met.ofW (cc := c_PS_count) (maxL := 3) (ret := (some .int)) (by decide) rfl ?_
  intro p e s m args below meth c s₁ B hml hv
  obtain ⟨rfl, hsz, hP, hK, hD0⟩ := hv
  have hx := B.exec
  have hb := B.bytes
  have hr := B.returns
  have hts := atoms_spec (ws := ws_PS_count) B.pre
  have htb := fun w (h : w ∈ TBL) => hts w (List.mem_cons_of_mem _ h)
  have hown : s.vm.findClass R_PS = some m.cls := findClass_of_methodNamed B.named
  have hlocks := B.notSynchronized
  subst hsz
  have hD := hD0.self (sz := s.heap.size)
  generalize hAe : va_A ([(x, .inr (0, [.int (nI lim), .int (nI rm), .ref dl, .int (nI n), .ref sb, .ref dc, .ref cm, .ref fo])), (dc, .inl (cV, 3, .inr (.inr (.inr (.inr h)))))] ++ fz) s.heap.size = A at hD ⊢
  have hA : ∀ q : Nat, s.heap.size ≤ q → A q := fun q h => by rw [← hAe]; exact Or.inr h
  have hS : va_S A s.heap s.heap [] := va_S.rf
  have hP : va_P (dC, dI) vwCl ([(x, .inr (0, [.int (nI lim), .int (nI rm), .ref dl, .int (nI n), .ref sb, .ref dc, .ref cm, .ref fo])), (dc, .inl (cV, 3, .inr (.inr (.inr (.inr h)))))] ++ fz) s.heap := hP
  have hl := lv_entry ([.ref x, .int k]) (n := 3) (Nat.le_of_ble_eq_true rfl)
  rw [lg_entry_eq]
  generalize (lg_sl ([.ref x, .int k]) ++ List.replicate (3 - (lg_sl ([.ref x, .int k])).length) Slot.unset).toArray = ls at hl ⊢
  have hl : lv_has ls 3 [(0, .ref x), (1, .int k)] := hl
  refine lv_aload_n hx hb d_PS_count_0 rfl (lv_at hl 0 rfl) ?_
  refine lv_iload_n hx hb d_PS_count_1 rfl (lv_at hl 1 rfl) ?_
  have hPc : va_P (dC, dI) vwCl [(x, .inr (0, [.int (nI lim), .int (nI rm), .ref dl, .int (nI n), .ref sb, .ref dc, .ref cm, .ref fo])), (dc, .inl (cV, 3, .inr (.inr (.inr (.inr h)))))] _ := hP.sub (ws' := [(x, .inr (0, [.int (nI lim), .int (nI rm), .ref dl, .int (nI n), .ref sb, .ref dc, .ref cm, .ref fo])), (dc, .inl (cV, 3, .inr (.inr (.inr (.inr h)))))]) [0, 1] rfl
  have hKc := hK.sub (tys' := [(cV, .object "PatchStore$Value")]) [0] rfl
  refine va_csq (W.runV (As := [.int k]) (rest := []) ⟨hx, hb, hml, hown, htb⟩ (q_PS_documentAt l dC dI x lim rm dl sb dc cm fo n cV h k ) (cwV 1 htb (g_V (fun _ h => h) m_577 m_574 m_576 m_1633 m_1) rfl rfl rfl (by decide +kernel) ⟨Nat.le_of_ble_eq_true rfl, Nat.le_of_ble_eq_true rfl⟩) ⟨fun a U g mk q => by obtain ⟨q0, qP, qK⟩ := q; exact ⟨q0, qP, va_K.moved (u := U) (U := U.calling g mk a) (Vm.Alike.refl U.vm) qK⟩, va_recv hKc hPc (ci := 0) rfl (q0 := 0) rfl, fun U hU hW => ⟨rfl, by rw [hU]; exact hPc, va_K.moved hW.alike hKc⟩⟩ rfl rfl hl.1 rfl (lv_room (Nat.le_of_ble_eq_true rfl)) d_PS_count_2 ⟨Nat.le_of_ble_eq_true rfl, Nat.le_of_ble_eq_true rfl⟩) (fun r1 hw2 => ?_)
  have hw2 : ((k < 0 ∨ 3 ≤ k) ∧ r1 = none) ∨ (¬ (k < 0 ∨ 3 ≤ k) ∧ r1 = h k.toNatClampNeg) := hw2
  have hdk : (r1 = none ∧ docK D k = none) ∨ ∃ (a9 : Nat) (n9 : List Nat) (w9 : List Row), r1 = some a9 ∧ docK D k = some w9 ∧ VT cB cO em aK 13 fz a9 n9 w9 ∧ h k.toNatClampNeg = some a9 ∧ ¬ k < 0 ∧ ¬ 3 ≤ k := dk_of hdoc hw2
  rcases hdk with ⟨rfl, hdk⟩ | ⟨a9, n9, w9, rfl, hdk, hv9, hh9, hk0, hk3⟩
  · refine W.eq (g2 := F0 m 5 ls [.null]) rfl ?_
    refine lv_astore_nN hx hb d_PS_count_5 rfl hl (by decide) rfl (fun ls hl => ?_)
    have hl : lv_has ls 3 [(2, .null), (0, .ref x), (1, .int k)] := hl
    refine lv_aload_nN hx hb d_PS_count_6 rfl (lv_at hl 0 rfl) ?_
    refine lv_ifnonnullN hx hb d_PS_count_7 ?_
    refine lv_iconst (v := 0) hx hb d_PS_count_10 (by decide) ?_
    refine lv_goto (tgt := 18) hx hb d_PS_count_11 rfl ?_
    have hP9 := zz_pickP (pre := [(x, .inr (0, [.int (nI lim), .int (nI rm), .ref dl, .int (nI n), .ref sb, .ref dc, .ref cm, .ref fo])), (dc, .inl (cV, 3, .inr (.inr (.inr (.inr h)))))]) (fz := fz) (wc := [(x, .inr (0, [.int (nI lim), .int (nI rm), .ref dl, .int (nI n), .ref sb, .ref dc, .ref cm, .ref fo])), (dc, .inl (cV, 3, .inr (.inr (.inr (.inr h)))))]) hP [0, 1] rfl
    have hD9 := zz_pickD (pre := [(x, .inr (0, [.int (nI lim), .int (nI rm), .ref dl, .int (nI n), .ref sb, .ref dc, .ref cm, .ref fo])), (dc, .inl (cV, 3, .inr (.inr (.inr (.inr h)))))]) (fz := fz) (wc := [(x, .inr (0, [.int (nI lim), .int (nI rm), .ref dl, .int (nI n), .ref sb, .ref dc, .ref cm, .ref fo])), (dc, .inl (cV, 3, .inr (.inr (.inr (.inr h)))))]) hD [0, 1] (by decide) rfl
    have hK9 := hK.sub (tys' := [(cV, .object "PatchStore$Value")]) [0] rfl
    refine W.widen (k := 0) (n := 0) (Nat.le_of_ble_eq_true rfl) (Nat.le_of_ble_eq_true rfl) ?_
    exact W.iret (v := 0) hx hb hr (fun t ht hW => ⟨⟨0, (), rfl, by rw [hdk], ⟨by rw [ht]; exact hP9, va_K.moved hW.alike hK9, hD9⟩⟩, hS.F ht⟩) hS.2.2 d_PS_count_18
  · refine W.eq (g2 := F0 m 5 ls [.ref a9]) rfl ?_
    refine lv_astore_n hx hb d_PS_count_5 rfl hl (by decide) rfl (fun ls hl => ?_)
    have hl : lv_has ls 3 [(2, .ref a9), (0, .ref x), (1, .int k)] := hl
    refine lv_aload_n hx hb d_PS_count_6 rfl (lv_at hl 0 rfl) ?_
    refine lv_ifnonnull (tgt := 14) hx hb d_PS_count_7 rfl ?_
    obtain ⟨d0, kd0, tx0, nu0, nm0, pa0, dp0, cn0, hm0, hdp0, hcn0⟩ := hv9.cell
    refine lv_aload_n hx hb d_PS_count_14 rfl (lv_at hl 0 rfl) ?_
    obtain ⟨qz3, hz3⟩ := List.getElem?_of_mem (List.mem_append_right [(x, .inr (0, [.int (nI lim), .int (nI rm), .ref dl, .int (nI n), .ref sb, .ref dc, .ref cm, .ref fo])), (dc, .inl (cV, 3, .inr (.inr (.inr (.inr h)))))] hm0)
    refine va_get (D := (dC, dI)) (ci := 3) (v := .int cn0) (C := R_VA) (T := T_VA) (N := 7) hx hb htb in_VA hown hK hP qz3 hz3 rfl 6 (by decide) (htb _ m_405) (fun _ h9 => h9) rfl d_PS_count_15 ?_
    have hP9 := zz_pickP (pre := [(x, .inr (0, [.int (nI lim), .int (nI rm), .ref dl, .int (nI n), .ref sb, .ref dc, .ref cm, .ref fo])), (dc, .inl (cV, 3, .inr (.inr (.inr (.inr h)))))]) (fz := fz) (wc := [(x, .inr (0, [.int (nI lim), .int (nI rm), .ref dl, .int (nI n), .ref sb, .ref dc, .ref cm, .ref fo])), (dc, .inl (cV, 3, .inr (.inr (.inr (.inr h)))))]) hP [0, 1] rfl
    have hD9 := zz_pickD (pre := [(x, .inr (0, [.int (nI lim), .int (nI rm), .ref dl, .int (nI n), .ref sb, .ref dc, .ref cm, .ref fo])), (dc, .inl (cV, 3, .inr (.inr (.inr (.inr h)))))]) (fz := fz) (wc := [(x, .inr (0, [.int (nI lim), .int (nI rm), .ref dl, .int (nI n), .ref sb, .ref dc, .ref cm, .ref fo])), (dc, .inl (cV, 3, .inr (.inr (.inr (.inr h)))))]) hD [0, 1] (by decide) rfl
    have hK9 := hK.sub (tys' := [(cV, .object "PatchStore$Value")]) [0] rfl
    refine W.widen (k := 0) (n := 0) (Nat.le_of_ble_eq_true rfl) (Nat.le_of_ble_eq_true rfl) ?_
    exact W.iret (v := cn0) hx hb hr (fun t ht hW => ⟨⟨cn0, (), rfl, by rw [hdk]; exact hcn0, ⟨by rw [ht]; exact hP9, va_K.moved hW.alike hK9, hD9⟩⟩, hS.F ht⟩) hS.2.2 d_PS_count_18
set_option maxHeartbeats 1000000 in
set_option maxRecDepth 100000 in
/-- delete(d) -/
theorem k_PS_delete (l : Launch) (dC : Nat → ClassId) (dI : Nat → Nat → Nat) (sz : Nat) (x : Nat) (lim : Nat) (rm : Nat) (dl : Nat) (sb : Nat) (dc : Nat) (cm : Nat) (fo : Nat) (n : Nat) (cV : ClassId) (h : Nat → Option Nat) (D : Nat → Option (List Row)) (cB : ClassId) (cO : ClassId) (k : Int32) (em : Nat) (aK : Nat → Nat) (aV : Nat → Nat) (fz : va_W) (hdoc : ∀ i, i < 3 → DOCz cB cO em aK fz (h i) (D i)) : Met l y_PS_delete ws_PS_delete ({ frames := 1, cells := 0, slots := 0, locals := 21 }) (va_Pc [.ref x, .int k] (fun U => U.heap.size = sz ∧ va_P (dC, dI) vwCl ([(x, .inr (0, [.int (nI lim), .int (nI rm), .ref dl, .int (nI n), .ref sb, .ref dc, .ref cm, .ref fo])), (dc, .inl (cV, 3, .inr (.inr (.inr (.inr h)))))] ++ fz) U.heap ∧ va_K (dC, dI) vwCl [(cV, .object "PatchStore$Value")] U ∧ va_D (fun _ => True) ([(x, .inr (0, [.int (nI lim), .int (nI rm), .ref dl, .int (nI n), .ref sb, .ref dc, .ref cm, .ref fo])), (dc, .inl (cV, 3, .inr (.inr (.inr (.inr h)))))] ++ fz))) (va_Qi (fun (r : Int32) (u : Nat → Option Nat) => (r = 0 ∧ docK D k = none ∧ u = h) ∨ (r = 1 ∧ (∃ w8, docK D k = some w8) ∧ k.toNatClampNeg < 3 ∧ u = va_up h k.toNatClampNeg none)) (fun u t => va_P (dC, dI) vwCl ([(x, .inr (0, [.int (nI lim), .int (nI rm), .ref dl, .int (nI n), .ref sb, .ref dc, .ref cm, .ref fo])), (dc, .inl (cV, 3, .inr (.inr (.inr (.inr u)))))] ++ fz) t.heap ∧ va_K (dC, dI) vwCl [(cV, .object "PatchStore$Value")] t ∧ va_D (va_A ([(x, .inr (0, [.int (nI lim), .int (nI rm), .ref dl, .int (nI n), .ref sb, .ref dc, .ref cm, .ref fo])), (dc, .inl (cV, 3, .inr (.inr (.inr (.inr h)))))] ++ fz) sz) ([(x, .inr (0, [.int (nI lim), .int (nI rm), .ref dl, .int (nI n), .ref sb, .ref dc, .ref cm, .ref fo])), (dc, .inl (cV, 3, .inr (.inr (.inr (.inr u)))))] ++ fz)) (va_A ([(x, .inr (0, [.int (nI lim), .int (nI rm), .ref dl, .int (nI n), .ref sb, .ref dc, .ref cm, .ref fo])), (dc, .inl (cV, 3, .inr (.inr (.inr (.inr h)))))] ++ fz) sz)) 0 0 (va_A ([(x, .inr (0, [.int (nI lim), .int (nI rm), .ref dl, .int (nI n), .ref sb, .ref dc, .ref cm, .ref fo])), (dc, .inl (cV, 3, .inr (.inr (.inr (.inr h)))))] ++ fz) sz) := by
  refine Met.ofW (cc := c_PS_delete) (maxL := 2) (ret := (some .boolean)) (by decide) rfl ?_
  intro p e s m args below meth c s₁ B hml hv
  obtain ⟨rfl, hsz, hP, hK, hD0⟩ := hv
  have hx := B.exec
  have hb := B.bytes
  have hr := B.returns
  have hts := atoms_spec (ws := ws_PS_delete) B.pre
  have htb := fun w (h : w ∈ TBL) => hts w (List.mem_cons_of_mem _ h)
  have hown : s.vm.findClass R_PS = some m.cls := findClass_of_methodNamed B.named
  have hlocks := B.notSynchronized
  subst hsz
  have hD := hD0.self (sz := s.heap.size)
  generalize hAe : va_A ([(x, .inr (0, [.int (nI lim), .int (nI rm), .ref dl, .int (nI n), .ref sb, .ref dc, .ref cm, .ref fo])), (dc, .inl (cV, 3, .inr (.inr (.inr (.inr h)))))] ++ fz) s.heap.size = A at hD ⊢
  have hA : ∀ q : Nat, s.heap.size ≤ q → A q := fun q h => by rw [← hAe]; exact Or.inr h
  have hS : va_S A s.heap s.heap [] := va_S.rf
  have hP : va_P (dC, dI) vwCl ([(x, .inr (0, [.int (nI lim), .int (nI rm), .ref dl, .int (nI n), .ref sb, .ref dc, .ref cm, .ref fo])), (dc, .inl (cV, 3, .inr (.inr (.inr (.inr h)))))] ++ fz) s.heap := hP
  have hl := lv_entry ([.ref x, .int k]) (n := 2) (Nat.le_of_ble_eq_true rfl)
  rw [lg_entry_eq]
  generalize (lg_sl ([.ref x, .int k]) ++ List.replicate (2 - (lg_sl ([.ref x, .int k])).length) Slot.unset).toArray = ls at hl ⊢
  have hl : lv_has ls 2 [(0, .ref x), (1, .int k)] := hl
  refine lv_aload_n hx hb d_PS_delete_0 rfl (lv_at hl 0 rfl) ?_
  refine lv_iload_n hx hb d_PS_delete_1 rfl (lv_at hl 1 rfl) ?_
  have hPc : va_P (dC, dI) vwCl [(x, .inr (0, [.int (nI lim), .int (nI rm), .ref dl, .int (nI n), .ref sb, .ref dc, .ref cm, .ref fo])), (dc, .inl (cV, 3, .inr (.inr (.inr (.inr h)))))] _ := hP.sub (ws' := [(x, .inr (0, [.int (nI lim), .int (nI rm), .ref dl, .int (nI n), .ref sb, .ref dc, .ref cm, .ref fo])), (dc, .inl (cV, 3, .inr (.inr (.inr (.inr h)))))]) [0, 1] rfl
  have hKc := hK.sub (tys' := [(cV, .object "PatchStore$Value")]) [0] rfl
  refine va_csq (W.runV (As := [.int k]) (rest := []) ⟨hx, hb, hml, hown, htb⟩ (q_PS_documentAt l dC dI x lim rm dl sb dc cm fo n cV h k ) (cwV 1 htb (g_V (fun _ h => h) m_577 m_574 m_576 m_1633 m_1) rfl rfl rfl (by decide +kernel) ⟨Nat.le_of_ble_eq_true rfl, Nat.le_of_ble_eq_true rfl⟩) ⟨fun a U g mk q => by obtain ⟨q0, qP, qK⟩ := q; exact ⟨q0, qP, va_K.moved (u := U) (U := U.calling g mk a) (Vm.Alike.refl U.vm) qK⟩, va_recv hKc hPc (ci := 0) rfl (q0 := 0) rfl, fun U hU hW => ⟨rfl, by rw [hU]; exact hPc, va_K.moved hW.alike hKc⟩⟩ rfl rfl hl.1 rfl (lv_room (Nat.le_of_ble_eq_true rfl)) d_PS_delete_2 ⟨Nat.le_of_ble_eq_true rfl, Nat.le_of_ble_eq_true rfl⟩) (fun r1 hw2 => ?_)
  have hw2 : ((k < 0 ∨ 3 ≤ k) ∧ r1 = none) ∨ (¬ (k < 0 ∨ 3 ≤ k) ∧ r1 = h k.toNatClampNeg) := hw2
  have hdk : (r1 = none ∧ docK D k = none) ∨ ∃ (a9 : Nat) (n9 : List Nat) (w9 : List Row), r1 = some a9 ∧ docK D k = some w9 ∧ VT cB cO em aK 13 fz a9 n9 w9 ∧ h k.toNatClampNeg = some a9 ∧ ¬ k < 0 ∧ ¬ 3 ≤ k := dk_of hdoc hw2
  rcases hdk with ⟨rfl, hdk⟩ | ⟨a9, n9, w9, rfl, hdk, hv9, hh9, hk0, hk3⟩
  · refine W.eq (g2 := F0 m 5 ls [.null]) rfl ?_
    refine lv_ifnonnullN hx hb d_PS_delete_5 ?_
    refine lv_iconst (v := 0) hx hb d_PS_delete_8 (by decide) ?_
    have hP9 := zz_pickP (pre := [(x, .inr (0, [.int (nI lim), .int (nI rm), .ref dl, .int (nI n), .ref sb, .ref dc, .ref cm, .ref fo])), (dc, .inl (cV, 3, .inr (.inr (.inr (.inr h)))))]) (fz := fz) (wc := [(x, .inr (0, [.int (nI lim), .int (nI rm), .ref dl, .int (nI n), .ref sb, .ref dc, .ref cm, .ref fo])), (dc, .inl (cV, 3, .inr (.inr (.inr (.inr h)))))]) hP [0, 1] rfl
    have hD9 := zz_pickD (pre := [(x, .inr (0, [.int (nI lim), .int (nI rm), .ref dl, .int (nI n), .ref sb, .ref dc, .ref cm, .ref fo])), (dc, .inl (cV, 3, .inr (.inr (.inr (.inr h)))))]) (fz := fz) (wc := [(x, .inr (0, [.int (nI lim), .int (nI rm), .ref dl, .int (nI n), .ref sb, .ref dc, .ref cm, .ref fo])), (dc, .inl (cV, 3, .inr (.inr (.inr (.inr h)))))]) hD [0, 1] (by decide) rfl
    have hK9 := hK.sub (tys' := [(cV, .object "PatchStore$Value")]) [0] rfl
    refine W.widen (k := 0) (n := 0) (Nat.le_of_ble_eq_true rfl) (Nat.le_of_ble_eq_true rfl) ?_
    exact W.zret (v := 0) hx hb hr (by decide) (fun t ht hW => ⟨⟨0, h, rfl, Or.inl ⟨rfl, hdk, rfl⟩, ⟨by rw [ht]; exact hP9, va_K.moved hW.alike hK9, hD9⟩⟩, hS.F ht⟩) hS.2.2 d_PS_delete_9
  · refine W.eq (g2 := F0 m 5 ls [.ref a9]) rfl ?_
    refine lv_ifnonnull (tgt := 10) hx hb d_PS_delete_5 rfl ?_
    refine lv_aload_n hx hb d_PS_delete_10 rfl (lv_at hl 0 rfl) ?_
    refine va_get (D := (dC, dI)) (ci := 0) (v := .ref dc) (C := R_PS) (T := T_PS) (N := 8) hx hb htb in_PS hown hK hP 0 rfl rfl 5 (by decide) (htb _ m_104) (fun _ h9 => h9) rfl d_PS_delete_11 ?_
    refine lv_iload_n hx hb d_PS_delete_14 rfl (lv_at hl 1 rfl) ?_
    refine lv_null hx hb d_PS_delete_15 ?_
    refine va_astqN hx hb hK hP hD hS 1 0 rfl rfl (i3_in hk0 hk3) d_PS_delete_16 (fun H locs hP hD hS => ?_)
    have hP : va_P (dC, dI) vwCl ([(x, .inr (0, [.int (nI lim), .int (nI rm), .ref dl, .int (nI n), .ref sb, .ref dc, .ref cm, .ref fo])), (dc, .inl (cV, 3, .inr (.inr (.inr (.inr (va_up h k.toNatClampNeg none))))))] ++ fz) H := hP
    have hD : va_D A ([(x, .inr (0, [.int (nI lim), .int (nI rm), .ref dl, .int (nI n), .ref sb, .ref dc, .ref cm, .ref fo])), (dc, .inl (cV, 3, .inr (.inr (.inr (.inr (va_up h k.toNatClampNeg none))))))] ++ fz) := hD
    refine lv_iconst (v := 1) hx hb d_PS_delete_17 (by decide) ?_
    have hP9 := zz_pickP (pre := [(x, .inr (0, [.int (nI lim), .int (nI rm), .ref dl, .int (nI n), .ref sb, .ref dc, .ref cm, .ref fo])), (dc, .inl (cV, 3, .inr (.inr (.inr (.inr (va_up h k.toNatClampNeg none))))))]) (fz := fz) (wc := [(x, .inr (0, [.int (nI lim), .int (nI rm), .ref dl, .int (nI n), .ref sb, .ref dc, .ref cm, .ref fo])), (dc, .inl (cV, 3, .inr (.inr (.inr (.inr (va_up h k.toNatClampNeg none))))))]) hP [0, 1] rfl
    have hD9 := zz_pickD (pre := [(x, .inr (0, [.int (nI lim), .int (nI rm), .ref dl, .int (nI n), .ref sb, .ref dc, .ref cm, .ref fo])), (dc, .inl (cV, 3, .inr (.inr (.inr (.inr (va_up h k.toNatClampNeg none))))))]) (fz := fz) (wc := [(x, .inr (0, [.int (nI lim), .int (nI rm), .ref dl, .int (nI n), .ref sb, .ref dc, .ref cm, .ref fo])), (dc, .inl (cV, 3, .inr (.inr (.inr (.inr (va_up h k.toNatClampNeg none))))))]) hD [0, 1] (by decide) rfl
    have hK9 := hK.sub (tys' := [(cV, .object "PatchStore$Value")]) [0] rfl
    refine W.widen (k := 0) (n := 0) (Nat.le_of_ble_eq_true rfl) (Nat.le_of_ble_eq_true rfl) ?_
    exact W.zret (v := 1) hx hb hr (by decide) (fun t ht hW => ⟨⟨1, (va_up h k.toNatClampNeg none), rfl, Or.inr ⟨rfl, ⟨_, hdk⟩, (i3 hk0 hk3).1, rfl⟩, ⟨by rw [ht]; exact hP9, va_K.moved hW.alike hK9, hD9⟩⟩, hS.F ht⟩) hS.2.2 d_PS_delete_18
set_option maxHeartbeats 1000000 in
set_option maxRecDepth 100000 in
/-- length(d) -/
theorem k_PS_length (l : Launch) (dC : Nat → ClassId) (dI : Nat → Nat → Nat) (sz : Nat) (x : Nat) (lim : Nat) (rm : Nat) (dl : Nat) (sb : Nat) (dc : Nat) (cm : Nat) (fo : Nat) (n : Nat) (cV : ClassId) (h : Nat → Option Nat) (D : Nat → Option (List Row)) (cB : ClassId) (cO : ClassId) (k : Int32) (em : Nat) (aK : Nat → Nat) (aV : Nat → Nat) (fz : va_W) (hdoc : ∀ i, i < 3 → DOCz cB cO em aK fz (h i) (D i)) : Met l y_PS_length ws_PS_length ({ frames := 40, cells := 1, slots := 3, locals := 1000 }) (va_Pc [.ref x, .int k] (fun U => U.heap.size = sz ∧ va_P (dC, dI) vwCl ([(x, .inr (0, [.int (nI lim), .int (nI rm), .ref dl, .int (nI n), .ref sb, .ref dc, .ref cm, .ref fo])), (dc, .inl (cV, 3, .inr (.inr (.inr (.inr h)))))] ++ fz) U.heap ∧ va_K (dC, dI) vwCl [(cV, .object "PatchStore$Value"), (cB, .byte), (cO, .object "java/lang/Object")] U ∧ va_D (fun _ => True) ([(x, .inr (0, [.int (nI lim), .int (nI rm), .ref dl, .int (nI n), .ref sb, .ref dc, .ref cm, .ref fo])), (dc, .inl (cV, 3, .inr (.inr (.inr (.inr h)))))] ++ fz) ∧ EX em aK aV (va_A ([(x, .inr (0, [.int (nI lim), .int (nI rm), .ref dl, .int (nI n), .ref sb, .ref dc, .ref cm, .ref fo])), (dc, .inl (cV, 3, .inr (.inr (.inr (.inr h)))))] ++ fz) sz) U U.heap)) (va_Qi (fun (r : Int32) (u : Unit) => r = (match docK D k with | none => -1 | some w => (emz (-1) (0, -1) (txt w)).1)) (fun u t => va_P (dC, dI) vwCl ([(x, .inr (0, [.int (nI lim), .int (nI rm), .ref dl, .int (nI n), .ref sb, .ref dc, .ref cm, .ref fo])), (dc, .inl (cV, 3, .inr (.inr (.inr (.inr h)))))] ++ fz) t.heap ∧ va_K (dC, dI) vwCl [(cV, .object "PatchStore$Value"), (cB, .byte), (cO, .object "java/lang/Object")] t ∧ va_D (va_A ([(x, .inr (0, [.int (nI lim), .int (nI rm), .ref dl, .int (nI n), .ref sb, .ref dc, .ref cm, .ref fo])), (dc, .inl (cV, 3, .inr (.inr (.inr (.inr h)))))] ++ fz) sz) ([(x, .inr (0, [.int (nI lim), .int (nI rm), .ref dl, .int (nI n), .ref sb, .ref dc, .ref cm, .ref fo])), (dc, .inl (cV, 3, .inr (.inr (.inr (.inr h)))))] ++ fz)) (va_A ([(x, .inr (0, [.int (nI lim), .int (nI rm), .ref dl, .int (nI n), .ref sb, .ref dc, .ref cm, .ref fo])), (dc, .inl (cV, 3, .inr (.inr (.inr (.inr h)))))] ++ fz) sz)) 1 3 (va_A ([(x, .inr (0, [.int (nI lim), .int (nI rm), .ref dl, .int (nI n), .ref sb, .ref dc, .ref cm, .ref fo])), (dc, .inl (cV, 3, .inr (.inr (.inr (.inr h)))))] ++ fz) sz) := by
  refine Met.ofW (cc := c_PS_length) (maxL := 4) (ret := (some .int)) (by decide) rfl ?_
  intro p e s m args below meth c s₁ B hml hv
  obtain ⟨rfl, hsz, hP, hK, hD0, hE⟩ := hv
  have hx := B.exec
  have hb := B.bytes
  have hr := B.returns
  have hts := atoms_spec (ws := ws_PS_length) B.pre
  have htb := fun w (h : w ∈ TBL) => hts w (List.mem_cons_of_mem _ h)
  have hown : s.vm.findClass R_PS = some m.cls := findClass_of_methodNamed B.named
  have hlocks := B.notSynchronized
  subst hsz
  have hD := hD0.self (sz := s.heap.size)
  generalize hAe : va_A ([(x, .inr (0, [.int (nI lim), .int (nI rm), .ref dl, .int (nI n), .ref sb, .ref dc, .ref cm, .ref fo])), (dc, .inl (cV, 3, .inr (.inr (.inr (.inr h)))))] ++ fz) s.heap.size = A at hD hE ⊢
  have hA : ∀ q : Nat, s.heap.size ≤ q → A q := fun q h => by rw [← hAe]; exact Or.inr h
  have hS : va_S A s.heap s.heap [] := va_S.rf
  have hP : va_P (dC, dI) vwCl ([(x, .inr (0, [.int (nI lim), .int (nI rm), .ref dl, .int (nI n), .ref sb, .ref dc, .ref cm, .ref fo])), (dc, .inl (cV, 3, .inr (.inr (.inr (.inr h)))))] ++ fz) s.heap := hP
  have hl := lv_entry ([.ref x, .int k]) (n := 4) (Nat.le_of_ble_eq_true rfl)
  rw [lg_entry_eq]
  generalize (lg_sl ([.ref x, .int k]) ++ List.replicate (4 - (lg_sl ([.ref x, .int k])).length) Slot.unset).toArray = ls at hl ⊢
  have hl : lv_has ls 4 [(0, .ref x), (1, .int k)] := hl
  refine lv_aload_n hx hb d_PS_length_0 rfl (lv_at hl 0 rfl) ?_
  refine lv_iload_n hx hb d_PS_length_1 rfl (lv_at hl 1 rfl) ?_
  have hPc : va_P (dC, dI) vwCl [(x, .inr (0, [.int (nI lim), .int (nI rm), .ref dl, .int (nI n), .ref sb, .ref dc, .ref cm, .ref fo])), (dc, .inl (cV, 3, .inr (.inr (.inr (.inr h)))))] _ := hP.sub (ws' := [(x, .inr (0, [.int (nI lim), .int (nI rm), .ref dl, .int (nI n), .ref sb, .ref dc, .ref cm, .ref fo])), (dc, .inl (cV, 3, .inr (.inr (.inr (.inr h)))))]) [0, 1] rfl
  have hKc := hK.sub (tys' := [(cV, .object "PatchStore$Value")]) [0] rfl
  refine va_csq (W.runV (As := [.int k]) (rest := []) ⟨hx, hb, hml, hown, htb⟩ (q_PS_documentAt l dC dI x lim rm dl sb dc cm fo n cV h k ) (cwV 1 htb (g_V (fun _ h => h) m_577 m_574 m_576 m_1633 m_1) rfl rfl rfl (by decide +kernel) ⟨Nat.le_of_ble_eq_true rfl, Nat.le_of_ble_eq_true rfl⟩) ⟨fun a U g mk q => by obtain ⟨q0, qP, qK⟩ := q; exact ⟨q0, qP, va_K.moved (u := U) (U := U.calling g mk a) (Vm.Alike.refl U.vm) qK⟩, va_recv hKc hPc (ci := 0) rfl (q0 := 0) rfl, fun U hU hW => ⟨rfl, by rw [hU]; exact hPc, va_K.moved hW.alike hKc⟩⟩ rfl rfl hl.1 rfl (lv_room (Nat.le_of_ble_eq_true rfl)) d_PS_length_2 ⟨Nat.le_of_ble_eq_true rfl, Nat.le_of_ble_eq_true rfl⟩) (fun r1 hw2 => ?_)
  have hw2 : ((k < 0 ∨ 3 ≤ k) ∧ r1 = none) ∨ (¬ (k < 0 ∨ 3 ≤ k) ∧ r1 = h k.toNatClampNeg) := hw2
  have hdk : (r1 = none ∧ docK D k = none) ∨ ∃ (a9 : Nat) (n9 : List Nat) (w9 : List Row), r1 = some a9 ∧ docK D k = some w9 ∧ VT cB cO em aK 13 fz a9 n9 w9 ∧ h k.toNatClampNeg = some a9 ∧ ¬ k < 0 ∧ ¬ 3 ≤ k := dk_of hdoc hw2
  rcases hdk with ⟨rfl, hdk⟩ | ⟨a9, n9, w9, rfl, hdk, hv9, hh9, hk0, hk3⟩
  · refine W.eq (g2 := F0 m 5 ls [.null]) rfl ?_
    refine lv_astore_nN hx hb d_PS_length_5 rfl hl (by decide) rfl (fun ls hl => ?_)
    have hl : lv_has ls 4 [(2, .null), (0, .ref x), (1, .int k)] := hl
    refine lv_aload_nN hx hb d_PS_length_6 rfl (lv_at hl 0 rfl) ?_
    refine lv_ifnonnullN hx hb d_PS_length_7 ?_
    refine lv_iconst (v := (-1)) hx hb d_PS_length_10 (by decide) ?_
    have hP9 := zz_pickP (pre := [(x, .inr (0, [.int (nI lim), .int (nI rm), .ref dl, .int (nI n), .ref sb, .ref dc, .ref cm, .ref fo])), (dc, .inl (cV, 3, .inr (.inr (.inr (.inr h)))))]) (fz := fz) (wc := [(x, .inr (0, [.int (nI lim), .int (nI rm), .ref dl, .int (nI n), .ref sb, .ref dc, .ref cm, .ref fo])), (dc, .inl (cV, 3, .inr (.inr (.inr (.inr h)))))]) hP [0, 1] rfl
    have hD9 := zz_pickD (pre := [(x, .inr (0, [.int (nI lim), .int (nI rm), .ref dl, .int (nI n), .ref sb, .ref dc, .ref cm, .ref fo])), (dc, .inl (cV, 3, .inr (.inr (.inr (.inr h)))))]) (fz := fz) (wc := [(x, .inr (0, [.int (nI lim), .int (nI rm), .ref dl, .int (nI n), .ref sb, .ref dc, .ref cm, .ref fo])), (dc, .inl (cV, 3, .inr (.inr (.inr (.inr h)))))]) hD [0, 1] (by decide) rfl
    have hK9 := hK.sub (tys' := [(cV, .object "PatchStore$Value"), (cB, .byte), (cO, .object "java/lang/Object")]) [0, 1, 2] rfl
    refine W.widen (k := 1) (n := 3) (Nat.le_of_ble_eq_true rfl) (Nat.le_of_ble_eq_true rfl) ?_
    exact W.iret (v := (-1)) hx hb hr (fun t ht hW => ⟨⟨(-1), (), rfl, by rw [hdk], ⟨by rw [ht]; exact hP9, va_K.moved hW.alike hK9, hD9⟩⟩, hS.F ht⟩) hS.2.2 d_PS_length_11
  · refine W.eq (g2 := F0 m 5 ls [.ref a9]) rfl ?_
    refine lv_astore_n hx hb d_PS_length_5 rfl hl (by decide) rfl (fun ls hl => ?_)
    have hl : lv_has ls 4 [(2, .ref a9), (0, .ref x), (1, .int k)] := hl
    refine lv_aload_n hx hb d_PS_length_6 rfl (lv_at hl 0 rfl) ?_
    refine lv_ifnonnull (tgt := 12) hx hb d_PS_length_7 rfl ?_
    refine va_new (ci := 8) (fs := [.int 0, .int 0, .int 0]) (C := R_SC) (T := T_SC) (N := 3) hx hb htb in_SC ty_SC ty_SC_ok hown (htb _ m_1055) (htb _ m_1056) (htb _ m_28) hK hP hD hS hA rfl (fun j hj => by rcases (show j = 0 ∨ j = 1 ∨ j = 2 by omega) with rfl | rfl | rfl <;> rfl) (Nat.le_of_ble_eq_true rfl) (Nat.le_of_ble_eq_true rfl) d_PS_length_12 (fun sc H hP hD hS => ?_)
    have hP := zz_rotP (pre := [(x, .inr (0, [.int (nI lim), .int (nI rm), .ref dl, .int (nI n), .ref sb, .ref dc, .ref cm, .ref fo])), (dc, .inl (cV, 3, .inr (.inr (.inr (.inr h)))))]) (fz := fz) hP
    have hD := zz_rotD (pre := [(x, .inr (0, [.int (nI lim), .int (nI rm), .ref dl, .int (nI n), .ref sb, .ref dc, .ref cm, .ref fo])), (dc, .inl (cV, 3, .inr (.inr (.inr (.inr h)))))]) (fz := fz) hD
    have hP : va_P (dC, dI) vwCl ([(x, .inr (0, [.int (nI lim), .int (nI rm), .ref dl, .int (nI n), .ref sb, .ref dc, .ref cm, .ref fo])), (dc, .inl (cV, 3, .inr (.inr (.inr (.inr h))))), (sc, .inr (8, [.int 0, .int 0, .int 0]))] ++ fz) H := hP
    have hD : va_D A ([(x, .inr (0, [.int (nI lim), .int (nI rm), .ref dl, .int (nI n), .ref sb, .ref dc, .ref cm, .ref fo])), (dc, .inl (cV, 3, .inr (.inr (.inr (.inr h))))), (sc, .inr (8, [.int 0, .int 0, .int 0]))] ++ fz) := hD
    refine W.widen (k := 1) (n := 3) (Nat.le_of_ble_eq_true rfl) (Nat.le_of_ble_eq_true rfl) ?_
    refine lv_dup hx hb d_PS_length_15 rfl ?_
    refine lv_iconst (v := (-1)) hx hb d_PS_length_16 (by decide) ?_
    have hPc := hP.sub (ws' := [(sc, .inr (8, [.int 0, .int 0, .int 0]))]) [2] rfl
    have hDc := hD.sub (ws' := [(sc, .inr (8, [.int 0, .int 0, .int 0]))]) [2] (by decide) rfl
    have hFc := va_free (wc := [(sc, .inr (8, [.int 0, .int 0, .int 0]))]) hD hS hA [2] rfl
    have hKc := hK.sub (tys' := []) [] rfl
    refine va_callv (va_runI (As := [.int (-1)]) (rest := [.ref sc]) ⟨hx, hb, hml, hown, htb⟩ (k_SC_init l dC dI _ sc (-1) ) (cwI 1 htb (g_all (fun _ h => h) m_1059) rfl rfl rfl (htb _ m_28) (htb _ m_1057) (htb _ m_1058) rfl (by decide +kernel) ⟨Nat.le_of_ble_eq_true rfl, Nat.le_of_ble_eq_true rfl⟩) ⟨fun a U g mk q => by obtain ⟨q0, q1, qP, qK, qD⟩ := q; exact ⟨q0, q1, qP, va_K.moved (u := U) (U := U.calling g mk a) (Vm.Alike.refl U.vm) qK, qD⟩, fun U hU hW => ⟨rfl, by rw [hU], by rw [hU]; exact hPc, va_K.moved hW.alike hKc, hDc.weaken (fun _ _ _ _ => trivial)⟩⟩ rfl rfl hl.1 rfl (lv_room (Nat.le_of_ble_eq_true rfl)) d_PS_length_17 ⟨Nat.le_of_ble_eq_true rfl, Nat.le_of_ble_eq_true rfl⟩) hS (fun q _ h => hFc q h) hFc (fun u3 t H1 locs ht hvm hw5 hB hz1 hk1 hS => ?_)
    obtain ⟨hP1, hK1, hD1⟩ := hB
    rw [ht] at hP1
    have hK1 := va_K.moved hvm.symm hK1
    have hw5 : True := hw5
    obtain ⟨hP, hD⟩ := zz_joinN (pre := [(x, .inr (0, [.int (nI lim), .int (nI rm), .ref dl, .int (nI n), .ref sb, .ref dc, .ref cm, .ref fo])), (dc, .inl (cV, 3, .inr (.inr (.inr (.inr h))))), (sc, .inr (8, [.int 0, .int 0, .int 0]))]) (fz := fz) (wc := [(sc, .inr (8, [.int 0, .int 0, .int 0]))]) (wr := [(x, .inr (0, [.int (nI lim), .int (nI rm), .ref dl, .int (nI n), .ref sb, .ref dc, .ref cm, .ref fo])), (dc, .inl (cV, 3, .inr (.inr (.inr (.inr h)))))]) (w1 := [(sc, .inr (8, [.int (-1), .int 0, .int (-1)]))]) hP hD [2] [0, 1] rfl rfl (by decide) (by decide) hk1 hFc hP1 hD1
    have hK := (hK.sub (tys' := [(cV, .object "PatchStore$Value"), (cB, .byte), (cO, .object "java/lang/Object")]) [0, 1, 2] rfl).app hK1
    generalize H1 = H at hP hS ⊢
    have hP : va_P (dC, dI) vwCl ([(x, .inr (0, [.int (nI lim), .int (nI rm), .ref dl, .int (nI n), .ref sb, .ref dc, .ref cm, .ref fo])), (dc, .inl (cV, 3, .inr (.inr (.inr (.inr h))))), (sc, .inr (8, [.int (-1), .int 0, .int (-1)]))] ++ fz) H := hP
    have hD : va_D A ([(x, .inr (0, [.int (nI lim), .int (nI rm), .ref dl, .int (nI n), .ref sb, .ref dc, .ref cm, .ref fo])), (dc, .inl (cV, 3, .inr (.inr (.inr (.inr h))))), (sc, .inr (8, [.int (-1), .int 0, .int (-1)]))] ++ fz) := hD
    have hK : va_K (dC, dI) vwCl [(cV, .object "PatchStore$Value"), (cB, .byte), (cO, .object "java/lang/Object")] s := hK
    refine lv_astore_n hx hb d_PS_length_20 rfl hl (by decide) rfl (fun ls hl => ?_)
    have hl : lv_has ls 4 [(3, .ref sc), (2, .ref a9), (0, .ref x), (1, .int k)] := hl
    refine lv_aload_n hx hb d_PS_length_21 rfl (lv_at hl 0 rfl) ?_
    refine lv_aload_n hx hb d_PS_length_22 rfl (lv_at hl 1 rfl) ?_
    have hP : va_P (dC, dI) vwCl ([(x, .inr (0, [.int (nI lim), .int (nI rm), .ref dl, .int (nI n), .ref sb, .ref dc, .ref cm, .ref fo])), (dc, .inl (cV, 3, .inr (.inr (.inr (.inr h))))), (sc, .inr (8, [.int (-1), .int ((0, -1) : Int32 × Int32).1, .int ((0, -1) : Int32 × Int32).2]))] ++ fz) H := hP
    have hD : va_D A ([(x, .inr (0, [.int (nI lim), .int (nI rm), .ref dl, .int (nI n), .ref sb, .ref dc, .ref cm, .ref fo])), (dc, .inl (cV, 3, .inr (.inr (.inr (.inr h))))), (sc, .inr (8, [.int (-1), .int ((0, -1) : Int32 × Int32).1, .int ((0, -1) : Int32 × Int32).2]))] ++ fz) := hD
    have hPc := zz_pickP (pre := [(x, .inr (0, [.int (nI lim), .int (nI rm), .ref dl, .int (nI n), .ref sb, .ref dc, .ref cm, .ref fo])), (dc, .inl (cV, 3, .inr (.inr (.inr (.inr h))))), (sc, .inr (8, [.int (-1), .int ((0, -1) : Int32 × Int32).1, .int ((0, -1) : Int32 × Int32).2]))]) (fz := fz) (wc := [(sc, .inr (8, [.int (-1), .int ((0, -1) : Int32 × Int32).1, .int ((0, -1) : Int32 × Int32).2]))]) hP [2] rfl
    have hDc := zz_pickD (pre := [(x, .inr (0, [.int (nI lim), .int (nI rm), .ref dl, .int (nI n), .ref sb, .ref dc, .ref cm, .ref fo])), (dc, .inl (cV, 3, .inr (.inr (.inr (.inr h))))), (sc, .inr (8, [.int (-1), .int ((0, -1) : Int32 × Int32).1, .int ((0, -1) : Int32 × Int32).2]))]) (fz := fz) (wc := [(sc, .inr (8, [.int (-1), .int ((0, -1) : Int32 × Int32).1, .int ((0, -1) : Int32 × Int32).2]))]) hD [2] (by decide) rfl
    have hFc := zz_free (pre := [(x, .inr (0, [.int (nI lim), .int (nI rm), .ref dl, .int (nI n), .ref sb, .ref dc, .ref cm, .ref fo])), (dc, .inl (cV, 3, .inr (.inr (.inr (.inr h))))), (sc, .inr (8, [.int (-1), .int ((0, -1) : Int32 × Int32).1, .int ((0, -1) : Int32 × Int32).2]))]) (fz := fz) (wc := [(sc, .inr (8, [.int (-1), .int ((0, -1) : Int32 × Int32).1, .int ((0, -1) : Int32 × Int32).2]))]) hD hS hA [2] rfl
    have hKc := hK.sub (tys' := [(cB, .byte), (cO, .object "java/lang/Object")]) [1, 2] rfl
    refine va_callv (va_runVN (As := [.ref a9]) (rest := []) ⟨hx, hb, hml, hown, htb⟩ (all_SC_spell 13 l dC dI _ sc (-1) ((0, -1) : Int32 × Int32) a9 n9 w9 cB cO em aK aV fz hv9) ⟨va_cnB 1 htb (g_all (fun _ h => h) m_1076) rfl rfl rfl (nw_13 hE) (htb _ m_28) (by decide +kernel) ⟨(by show ((6 + 2 * 13) + 1) ≤ 40; omega), (by show (22 + (150 + 60 * 13)) ≤ 1000; omega)⟩, (htb _ m_1075), (htb _ m_1645)⟩ ⟨fun a U g mk q => by obtain ⟨q0, q1, qP, qK, qD, z0⟩ := q; exact ⟨q0, q1, qP, va_K.moved (u := U) (U := U.calling g mk a) (Vm.Alike.refl U.vm) qK, qD, EX.same (U := U) (U' := U.calling g mk a) rfl z0⟩, va_recv hK hP (ci := 8) rfl (q0 := 2) rfl, fun U hU hW => ⟨rfl, by rw [hU], by rw [hU]; exact hPc, va_K.moved hW.alike hKc, hDc.weaken (fun _ _ _ _ => trivial), by rw [hU]; exact EX.warm hW ((hE.kept (fun a h1 h2 => hS.2.1 a h1 h2)).narrow hFc)⟩⟩ rfl rfl hl.1 rfl (lv_room (Nat.le_of_ble_eq_true rfl)) d_PS_length_23 ⟨Nat.le_of_ble_eq_true rfl, Nat.le_of_ble_eq_true rfl⟩) hS (fun q _ h => hFc q h) hFc (fun u7 t H1 locs ht hvm hw9 hB hz1 hk1 hS => ?_)
    obtain ⟨hP1, hK1, hD1⟩ := hB
    rw [ht] at hP1
    have hK1 := va_K.moved hvm.symm hK1
    have hw9 : True := hw9
    obtain ⟨hP, hD⟩ := zz_join (pre := [(x, .inr (0, [.int (nI lim), .int (nI rm), .ref dl, .int (nI n), .ref sb, .ref dc, .ref cm, .ref fo])), (dc, .inl (cV, 3, .inr (.inr (.inr (.inr h))))), (sc, .inr (8, [.int (-1), .int ((0, -1) : Int32 × Int32).1, .int ((0, -1) : Int32 × Int32).2]))]) (fz := fz) (wc := [(sc, .inr (8, [.int (-1), .int ((0, -1) : Int32 × Int32).1, .int ((0, -1) : Int32 × Int32).2]))]) (wr := [(x, .inr (0, [.int (nI lim), .int (nI rm), .ref dl, .int (nI n), .ref sb, .ref dc, .ref cm, .ref fo])), (dc, .inl (cV, 3, .inr (.inr (.inr (.inr h)))))]) (w1 := ([(sc, .inr (8, [.int (-1), .int (emz (-1) ((0, -1) : Int32 × Int32) (txt w9)).1, .int (emz (-1) ((0, -1) : Int32 × Int32) (txt w9)).2]))] ++ fz)) hP hD [2] [0, 1] rfl rfl (by decide) (by decide) hk1 hFc hP1 hD1
    have hK := (hK.sub (tys' := [(cV, .object "PatchStore$Value")]) [0] rfl).app hK1
    generalize H1 = H at hP hS ⊢
    have hP : va_P (dC, dI) vwCl ([(x, .inr (0, [.int (nI lim), .int (nI rm), .ref dl, .int (nI n), .ref sb, .ref dc, .ref cm, .ref fo])), (dc, .inl (cV, 3, .inr (.inr (.inr (.inr h))))), (sc, .inr (8, [.int (-1), .int (emz (-1) ((0, -1) : Int32 × Int32) (txt w9)).1, .int (emz (-1) ((0, -1) : Int32 × Int32) (txt w9)).2]))] ++ fz) H := hP
    have hD : va_D A ([(x, .inr (0, [.int (nI lim), .int (nI rm), .ref dl, .int (nI n), .ref sb, .ref dc, .ref cm, .ref fo])), (dc, .inl (cV, 3, .inr (.inr (.inr (.inr h))))), (sc, .inr (8, [.int (-1), .int (emz (-1) ((0, -1) : Int32 × Int32) (txt w9)).1, .int (emz (-1) ((0, -1) : Int32 × Int32) (txt w9)).2]))] ++ fz) := hD
    have hK : va_K (dC, dI) vwCl [(cV, .object "PatchStore$Value"), (cB, .byte), (cO, .object "java/lang/Object")] s := hK
    refine lv_aload_n hx hb d_PS_length_26 rfl (lv_at hl 0 rfl) ?_
    refine va_getN (D := (dC, dI)) (ci := 8) (v := .int (emz (-1) ((0, -1) : Int32 × Int32) (txt w9)).1) (C := R_SC) (T := T_SC) (N := 3) hx hb htb in_SC hown hK hP 2 rfl rfl 1 (by decide) (va_Nw.use rfl (nw_11 hE)) (fun _ h9 => h9) rfl d_PS_length_27 ?_
    have hP9 := zz_pickP (pre := [(x, .inr (0, [.int (nI lim), .int (nI rm), .ref dl, .int (nI n), .ref sb, .ref dc, .ref cm, .ref fo])), (dc, .inl (cV, 3, .inr (.inr (.inr (.inr h))))), (sc, .inr (8, [.int (-1), .int (emz (-1) ((0, -1) : Int32 × Int32) (txt w9)).1, .int (emz (-1) ((0, -1) : Int32 × Int32) (txt w9)).2]))]) (fz := fz) (wc := [(x, .inr (0, [.int (nI lim), .int (nI rm), .ref dl, .int (nI n), .ref sb, .ref dc, .ref cm, .ref fo])), (dc, .inl (cV, 3, .inr (.inr (.inr (.inr h)))))]) hP [0, 1] rfl
    have hD9 := zz_pickD (pre := [(x, .inr (0, [.int (nI lim), .int (nI rm), .ref dl, .int (nI n), .ref sb, .ref dc, .ref cm, .ref fo])), (dc, .inl (cV, 3, .inr (.inr (.inr (.inr h))))), (sc, .inr (8, [.int (-1), .int (emz (-1) ((0, -1) : Int32 × Int32) (txt w9)).1, .int (emz (-1) ((0, -1) : Int32 × Int32) (txt w9)).2]))]) (fz := fz) (wc := [(x, .inr (0, [.int (nI lim), .int (nI rm), .ref dl, .int (nI n), .ref sb, .ref dc, .ref cm, .ref fo])), (dc, .inl (cV, 3, .inr (.inr (.inr (.inr h)))))]) hD [0, 1] (by decide) rfl
    have hK9 := hK.sub (tys' := [(cV, .object "PatchStore$Value"), (cB, .byte), (cO, .object "java/lang/Object")]) [0, 1, 2] rfl
    refine W.widen (k := 1) (n := 3) (Nat.le_of_ble_eq_true rfl) (Nat.le_of_ble_eq_true rfl) ?_
    exact W.iret (v := ((emz (-1) ((0, -1) : Int32 × Int32) (txt w9)).1)) hx hb hr (fun t ht hW => ⟨⟨((emz (-1) ((0, -1) : Int32 × Int32) (txt w9)).1), (), rfl, by rw [hdk], ⟨by rw [ht]; exact hP9, va_K.moved hW.alike hK9, hD9⟩⟩, hS.F ht⟩) hS.2.2 d_PS_length_30
set_option maxHeartbeats 1000000 in
set_option maxRecDepth 100000 in
/-- letterOf(null, i) -/
theorem k_PS_letterOfN (l : Launch) (dC : Nat → ClassId) (dI : Nat → Nat → Nat) (sz : Nat) (i : Int32) : Met l y_PS_letterOf ws_PS_letterOf ({ frames := 0, cells := 0, slots := 0, locals := 0 }) (va_Pc [.null, .int i] (fun U => U.heap.size = sz ∧ va_P (dC, dI) vwCl [] U.heap ∧ va_K (dC, dI) vwCl [] U ∧ va_D (fun _ => True) [])) (va_Qi (fun (r : Int32) (u : Unit) => r = -1) (fun u t => va_P (dC, dI) vwCl [] t.heap ∧ va_K (dC, dI) vwCl [] t ∧ va_D (va_A [] sz) []) (va_A [] sz)) 0 0 (va_A [] sz) := by
  refine Met.ofW (cc := c_PS_letterOf) (maxL := 3) (ret := (some .int)) (by decide) rfl ?_
  intro p e s m args below meth c s₁ B hml hv
  obtain ⟨rfl, hsz, hP, hK, hD0⟩ := hv
  have hx := B.exec
  have hb := B.bytes
  have hr := B.returns
  have hts := atoms_spec (ws := ws_PS_letterOf) B.pre
  have htb := fun w (h : w ∈ TBL) => hts w (List.mem_cons_of_mem _ h)
  have hown : s.vm.findClass R_PS = some m.cls := findClass_of_methodNamed B.named
  have hlocks := B.notSynchronized
  subst hsz
  have hD := hD0.self (sz := s.heap.size)
  generalize hAe : va_A [] s.heap.size = A at hD ⊢
  have hA : ∀ q : Nat, s.heap.size ≤ q → A q := fun q h => by rw [← hAe]; exact Or.inr h
  have hS : va_S A s.heap s.heap [] := va_S.rf
  have hP : va_P (dC, dI) vwCl [] s.heap := hP
  have hl := lv_entry ([.null, .int i]) (n := 3) (Nat.le_of_ble_eq_true rfl)
  rw [lg_entry_eq]
  generalize (lg_sl ([.null, .int i]) ++ List.replicate (3 - (lg_sl ([.null, .int i])).length) Slot.unset).toArray = ls at hl ⊢
  have hl : lv_has ls 3 [(0, .null), (1, .int i)] := hl
  refine lv_aload_nN hx hb d_PS_letterOf_0 rfl (lv_at hl 0 rfl) ?_
  refine lv_ifnullN (tgt := 8) hx hb d_PS_letterOf_1 rfl ?_
  refine lv_iconst (v := (-1)) hx hb d_PS_letterOf_8 (by decide) ?_
  have hP9 := hP.sub (ws' := []) [] rfl
  have hD9 := hD.sub (ws' := []) [] (by decide) rfl
  have hK9 := hK.sub (tys' := []) [] rfl
  refine W.widen (k := 0) (n := 0) (Nat.le_of_ble_eq_true rfl) (Nat.le_of_ble_eq_true rfl) ?_
  exact W.iret (v := (-1)) hx hb hr (fun t ht hW => ⟨⟨(-1), (), rfl, rfl, ⟨by rw [ht]; exact hP9, va_K.moved hW.alike hK9, hD9⟩⟩, hS.F ht⟩) hS.2.2 d_PS_letterOf_9
set_option maxHeartbeats 1000000 in
set_option maxRecDepth 100000 in
/-- letterOf(value, i) -/
theorem k_PS_letterOf (l : Launch) (dC : Nat → ClassId) (dI : Nat → Nat → Nat) (sz : Nat) (a : Nat) (nn : List Nat) (rows : List Row) (cB : ClassId) (cO : ClassId) (i : Int32) (em : Nat) (aK : Nat → Nat) (aV : Nat → Nat) (fz : va_W) (hv : VT cB cO em aK 13 fz a nn rows) : Met l y_PS_letterOf ws_PS_letterOf ({ frames := 40, cells := 1, slots := 3, locals := 1000 }) (va_Pc [.ref a, .int i] (fun U => U.heap.size = sz ∧ va_P (dC, dI) vwCl ([] ++ fz) U.heap ∧ va_K (dC, dI) vwCl [(cB, .byte), (cO, .object "java/lang/Object")] U ∧ va_D (fun _ => True) ([] ++ fz) ∧ EX em aK aV (va_A ([] ++ fz) sz) U U.heap)) (va_Qi (fun (r : Int32) (u : Unit) => r = if i < 0 then -1 else (emz i (0, -1) (txt rows)).2) (fun u t => va_P (dC, dI) vwCl ([] ++ fz) t.heap ∧ va_K (dC, dI) vwCl [(cB, .byte), (cO, .object "java/lang/Object")] t ∧ va_D (va_A ([] ++ fz) sz) ([] ++ fz)) (va_A ([] ++ fz) sz)) 1 3 (va_A ([] ++ fz) sz) := by
  refine Met.ofW (cc := c_PS_letterOf) (maxL := 3) (ret := (some .int)) (by decide) rfl ?_
  intro p e s m args below meth c s₁ B hml hv
  obtain ⟨rfl, hsz, hP, hK, hD0, hE⟩ := hv
  have hx := B.exec
  have hb := B.bytes
  have hr := B.returns
  have hts := atoms_spec (ws := ws_PS_letterOf) B.pre
  have htb := fun w (h : w ∈ TBL) => hts w (List.mem_cons_of_mem _ h)
  have hown : s.vm.findClass R_PS = some m.cls := findClass_of_methodNamed B.named
  have hlocks := B.notSynchronized
  subst hsz
  have hD := hD0.self (sz := s.heap.size)
  generalize hAe : va_A ([] ++ fz) s.heap.size = A at hD hE ⊢
  have hA : ∀ q : Nat, s.heap.size ≤ q → A q := fun q h => by rw [← hAe]; exact Or.inr h
  have hS : va_S A s.heap s.heap [] := va_S.rf
  have hP : va_P (dC, dI) vwCl ([] ++ fz) s.heap := hP
  have hl := lv_entry ([.ref a, .int i]) (n := 3) (Nat.le_of_ble_eq_true rfl)
  rw [lg_entry_eq]
  generalize (lg_sl ([.ref a, .int i]) ++ List.replicate (3 - (lg_sl ([.ref a, .int i])).length) Slot.unset).toArray = ls at hl ⊢
  have hl : lv_has ls 3 [(0, .ref a), (1, .int i)] := hl
  refine lv_aload_n hx hb d_PS_letterOf_0 rfl (lv_at hl 0 rfl) ?_
  refine lv_ifnull hx hb d_PS_letterOf_1 ?_
  refine lv_iload_n hx hb d_PS_letterOf_4 rfl (lv_at hl 1 rfl) ?_
  refine lv_if_ge (tgt := 10) hx hb d_PS_letterOf_5 rfl (fun h1 => ?_) (fun h1 => ?_)
  · have h1 : ¬ i < 0 := fun h => absurd h (Int32.not_lt.mpr h1)
    refine va_new (ci := 8) (fs := [.int 0, .int 0, .int 0]) (C := R_SC) (T := T_SC) (N := 3) hx hb htb in_SC ty_SC ty_SC_ok hown (htb _ m_1055) (htb _ m_1056) (htb _ m_28) hK hP hD hS hA rfl (fun j hj => by rcases (show j = 0 ∨ j = 1 ∨ j = 2 by omega) with rfl | rfl | rfl <;> rfl) (Nat.le_of_ble_eq_true rfl) (Nat.le_of_ble_eq_true rfl) d_PS_letterOf_10 (fun sc H hP hD hS => ?_)
    have hP := zz_rotP (pre := []) (fz := fz) hP
    have hD := zz_rotD (pre := []) (fz := fz) hD
    have hP : va_P (dC, dI) vwCl ([(sc, .inr (8, [.int 0, .int 0, .int 0]))] ++ fz) H := hP
    have hD : va_D A ([(sc, .inr (8, [.int 0, .int 0, .int 0]))] ++ fz) := hD
    refine W.widen (k := 1) (n := 3) (Nat.le_of_ble_eq_true rfl) (Nat.le_of_ble_eq_true rfl) ?_
    refine lv_dup hx hb d_PS_letterOf_13 rfl ?_
    refine lv_iload_n hx hb d_PS_letterOf_14 rfl (lv_at hl 1 rfl) ?_
    have hPc := hP.sub (ws' := [(sc, .inr (8, [.int 0, .int 0, .int 0]))]) [0] rfl
    have hDc := hD.sub (ws' := [(sc, .inr (8, [.int 0, .int 0, .int 0]))]) [0] (by decide) rfl
    have hFc := va_free (wc := [(sc, .inr (8, [.int 0, .int 0, .int 0]))]) hD hS hA [0] rfl
    have hKc := hK.sub (tys' := []) [] rfl
    refine va_callv (va_runI (As := [.int i]) (rest := [.ref sc]) ⟨hx, hb, hml, hown, htb⟩ (k_SC_init l dC dI _ sc i ) (cwI 1 htb (g_all (fun _ h => h) m_1059) rfl rfl rfl (htb _ m_28) (htb _ m_1057) (htb _ m_1058) rfl (by decide +kernel) ⟨Nat.le_of_ble_eq_true rfl, Nat.le_of_ble_eq_true rfl⟩) ⟨fun a U g mk q => by obtain ⟨q0, q1, qP, qK, qD⟩ := q; exact ⟨q0, q1, qP, va_K.moved (u := U) (U := U.calling g mk a) (Vm.Alike.refl U.vm) qK, qD⟩, fun U hU hW => ⟨rfl, by rw [hU], by rw [hU]; exact hPc, va_K.moved hW.alike hKc, hDc.weaken (fun _ _ _ _ => trivial)⟩⟩ rfl rfl hl.1 rfl (lv_room (Nat.le_of_ble_eq_true rfl)) d_PS_letterOf_15 ⟨Nat.le_of_ble_eq_true rfl, Nat.le_of_ble_eq_true rfl⟩) hS (fun q _ h => hFc q h) hFc (fun u1 t H1 locs ht hvm hw3 hB hz1 hk1 hS => ?_)
    obtain ⟨hP1, hK1, hD1⟩ := hB
    rw [ht] at hP1
    have hK1 := va_K.moved hvm.symm hK1
    have hw3 : True := hw3
    obtain ⟨hP, hD⟩ := zz_joinN (pre := [(sc, .inr (8, [.int 0, .int 0, .int 0]))]) (fz := fz) (wc := [(sc, .inr (8, [.int 0, .int 0, .int 0]))]) (wr := []) (w1 := [(sc, .inr (8, [.int i, .int 0, .int (-1)]))]) hP hD [0] [] rfl rfl (by decide) (by decide) hk1 hFc hP1 hD1
    have hK := (hK.sub (tys' := [(cB, .byte), (cO, .object "java/lang/Object")]) [0, 1] rfl).app hK1
    generalize H1 = H at hP hS ⊢
    have hP : va_P (dC, dI) vwCl ([(sc, .inr (8, [.int i, .int 0, .int (-1)]))] ++ fz) H := hP
    have hD : va_D A ([(sc, .inr (8, [.int i, .int 0, .int (-1)]))] ++ fz) := hD
    have hK : va_K (dC, dI) vwCl [(cB, .byte), (cO, .object "java/lang/Object")] s := hK
    refine lv_astore_n hx hb d_PS_letterOf_18 rfl hl (by decide) rfl (fun ls hl => ?_)
    have hl : lv_has ls 3 [(2, .ref sc), (0, .ref a), (1, .int i)] := hl
    refine lv_aload_n hx hb d_PS_letterOf_19 rfl (lv_at hl 0 rfl) ?_
    refine lv_aload_n hx hb d_PS_letterOf_20 rfl (lv_at hl 1 rfl) ?_
    have hP : va_P (dC, dI) vwCl ([(sc, .inr (8, [.int i, .int ((0, -1) : Int32 × Int32).1, .int ((0, -1) : Int32 × Int32).2]))] ++ fz) H := hP
    have hD : va_D A ([(sc, .inr (8, [.int i, .int ((0, -1) : Int32 × Int32).1, .int ((0, -1) : Int32 × Int32).2]))] ++ fz) := hD
    have hPc := zz_pickP (pre := [(sc, .inr (8, [.int i, .int ((0, -1) : Int32 × Int32).1, .int ((0, -1) : Int32 × Int32).2]))]) (fz := fz) (wc := [(sc, .inr (8, [.int i, .int ((0, -1) : Int32 × Int32).1, .int ((0, -1) : Int32 × Int32).2]))]) hP [0] rfl
    have hDc := zz_pickD (pre := [(sc, .inr (8, [.int i, .int ((0, -1) : Int32 × Int32).1, .int ((0, -1) : Int32 × Int32).2]))]) (fz := fz) (wc := [(sc, .inr (8, [.int i, .int ((0, -1) : Int32 × Int32).1, .int ((0, -1) : Int32 × Int32).2]))]) hD [0] (by decide) rfl
    have hFc := zz_free (pre := [(sc, .inr (8, [.int i, .int ((0, -1) : Int32 × Int32).1, .int ((0, -1) : Int32 × Int32).2]))]) (fz := fz) (wc := [(sc, .inr (8, [.int i, .int ((0, -1) : Int32 × Int32).1, .int ((0, -1) : Int32 × Int32).2]))]) hD hS hA [0] rfl
    have hKc := hK.sub (tys' := [(cB, .byte), (cO, .object "java/lang/Object")]) [0, 1] rfl
    refine va_callv (va_runVN (As := [.ref a]) (rest := []) ⟨hx, hb, hml, hown, htb⟩ (all_SC_spell 13 l dC dI _ sc i ((0, -1) : Int32 × Int32) a nn rows cB cO em aK aV fz hv) ⟨va_cnB 1 htb (g_all (fun _ h => h) m_1076) rfl rfl rfl (nw_13 hE) (htb _ m_28) (by decide +kernel) ⟨(by show ((6 + 2 * 13) + 1) ≤ 40; omega), (by show (22 + (150 + 60 * 13)) ≤ 1000; omega)⟩, (htb _ m_1075), (htb _ m_1645)⟩ ⟨fun a U g mk q => by obtain ⟨q0, q1, qP, qK, qD, z0⟩ := q; exact ⟨q0, q1, qP, va_K.moved (u := U) (U := U.calling g mk a) (Vm.Alike.refl U.vm) qK, qD, EX.same (U := U) (U' := U.calling g mk a) rfl z0⟩, va_recv hK hP (ci := 8) rfl (q0 := 0) rfl, fun U hU hW => ⟨rfl, by rw [hU], by rw [hU]; exact hPc, va_K.moved hW.alike hKc, hDc.weaken (fun _ _ _ _ => trivial), by rw [hU]; exact EX.warm hW ((hE.kept (fun a h1 h2 => hS.2.1 a h1 h2)).narrow hFc)⟩⟩ rfl rfl hl.1 rfl (lv_room (Nat.le_of_ble_eq_true rfl)) d_PS_letterOf_21 ⟨Nat.le_of_ble_eq_true rfl, Nat.le_of_ble_eq_true rfl⟩) hS (fun q _ h => hFc q h) hFc (fun u5 t H1 locs ht hvm hw7 hB hz1 hk1 hS => ?_)
    obtain ⟨hP1, hK1, hD1⟩ := hB
    rw [ht] at hP1
    have hK1 := va_K.moved hvm.symm hK1
    have hw7 : True := hw7
    obtain ⟨hP, hD⟩ := zz_join (pre := [(sc, .inr (8, [.int i, .int ((0, -1) : Int32 × Int32).1, .int ((0, -1) : Int32 × Int32).2]))]) (fz := fz) (wc := [(sc, .inr (8, [.int i, .int ((0, -1) : Int32 × Int32).1, .int ((0, -1) : Int32 × Int32).2]))]) (wr := []) (w1 := ([(sc, .inr (8, [.int i, .int (emz i ((0, -1) : Int32 × Int32) (txt rows)).1, .int (emz i ((0, -1) : Int32 × Int32) (txt rows)).2]))] ++ fz)) hP hD [0] [] rfl rfl (by decide) (by decide) hk1 hFc hP1 hD1
    have hK := (hK.sub (tys' := []) [] rfl).app hK1
    generalize H1 = H at hP hS ⊢
    have hP : va_P (dC, dI) vwCl ([(sc, .inr (8, [.int i, .int (emz i ((0, -1) : Int32 × Int32) (txt rows)).1, .int (emz i ((0, -1) : Int32 × Int32) (txt rows)).2]))] ++ fz) H := hP
    have hD : va_D A ([(sc, .inr (8, [.int i, .int (emz i ((0, -1) : Int32 × Int32) (txt rows)).1, .int (emz i ((0, -1) : Int32 × Int32) (txt rows)).2]))] ++ fz) := hD
    have hK : va_K (dC, dI) vwCl [(cB, .byte), (cO, .object "java/lang/Object")] s := hK
    refine lv_aload_n hx hb d_PS_letterOf_24 rfl (lv_at hl 0 rfl) ?_
    refine va_getN (D := (dC, dI)) (ci := 8) (v := .int (emz i ((0, -1) : Int32 × Int32) (txt rows)).2) (C := R_SC) (T := T_SC) (N := 3) hx hb htb in_SC hown hK hP 0 rfl rfl 2 (by decide) (va_Nw.use rfl (nw_12 hE)) (fun _ h9 => h9) rfl d_PS_letterOf_25 ?_
    have hP9 := zz_pickP (pre := [(sc, .inr (8, [.int i, .int (emz i ((0, -1) : Int32 × Int32) (txt rows)).1, .int (emz i ((0, -1) : Int32 × Int32) (txt rows)).2]))]) (fz := fz) (wc := []) hP [] rfl
    have hD9 := zz_pickD (pre := [(sc, .inr (8, [.int i, .int (emz i ((0, -1) : Int32 × Int32) (txt rows)).1, .int (emz i ((0, -1) : Int32 × Int32) (txt rows)).2]))]) (fz := fz) (wc := []) hD [] (by decide) rfl
    have hK9 := hK.sub (tys' := [(cB, .byte), (cO, .object "java/lang/Object")]) [0, 1] rfl
    refine W.widen (k := 1) (n := 3) (Nat.le_of_ble_eq_true rfl) (Nat.le_of_ble_eq_true rfl) ?_
    exact W.iret (v := ((emz i ((0, -1) : Int32 × Int32) (txt rows)).2)) hx hb hr (fun t ht hW => ⟨⟨((emz i ((0, -1) : Int32 × Int32) (txt rows)).2), (), rfl, by rw [if_neg h1], ⟨by rw [ht]; exact hP9, va_K.moved hW.alike hK9, hD9⟩⟩, hS.F ht⟩) hS.2.2 d_PS_letterOf_28
  · have h1 : i < 0 := Int32.not_le.mp h1
    refine lv_iconst (v := (-1)) hx hb d_PS_letterOf_8 (by decide) ?_
    have hP9 := zz_pickP (pre := []) (fz := fz) (wc := []) hP [] rfl
    have hD9 := zz_pickD (pre := []) (fz := fz) (wc := []) hD [] (by decide) rfl
    have hK9 := hK.sub (tys' := [(cB, .byte), (cO, .object "java/lang/Object")]) [0, 1] rfl
    refine W.widen (k := 1) (n := 3) (Nat.le_of_ble_eq_true rfl) (Nat.le_of_ble_eq_true rfl) ?_
    exact W.iret (v := (-1)) hx hb hr (fun t ht hW => ⟨⟨(-1), (), rfl, by rw [if_pos h1], ⟨by rw [ht]; exact hP9, va_K.moved hW.alike hK9, hD9⟩⟩, hS.F ht⟩) hS.2.2 d_PS_letterOf_9
set_option maxHeartbeats 1000000 in
set_option maxRecDepth 100000 in
/-- letter(d, i) -/
theorem k_PS_letter (l : Launch) (dC : Nat → ClassId) (dI : Nat → Nat → Nat) (sz : Nat) (x : Nat) (lim : Nat) (rm : Nat) (dl : Nat) (sb : Nat) (dc : Nat) (cm : Nat) (fo : Nat) (n : Nat) (cV : ClassId) (h : Nat → Option Nat) (D : Nat → Option (List Row)) (cB : ClassId) (cO : ClassId) (k : Int32) (em : Nat) (aK : Nat → Nat) (aV : Nat → Nat) (i : Int32) (fz : va_W) (hdoc : ∀ i, i < 3 → DOCz cB cO em aK fz (h i) (D i)) : Met l y_PS_letter ws_PS_letter ({ frames := 42, cells := 1, slots := 3, locals := 1040 }) (va_Pc [.ref x, .int k, .int i] (fun U => U.heap.size = sz ∧ va_P (dC, dI) vwCl ([(x, .inr (0, [.int (nI lim), .int (nI rm), .ref dl, .int (nI n), .ref sb, .ref dc, .ref cm, .ref fo])), (dc, .inl (cV, 3, .inr (.inr (.inr (.inr h)))))] ++ fz) U.heap ∧ va_K (dC, dI) vwCl [(cV, .object "PatchStore$Value"), (cB, .byte), (cO, .object "java/lang/Object")] U ∧ va_D (fun _ => True) ([(x, .inr (0, [.int (nI lim), .int (nI rm), .ref dl, .int (nI n), .ref sb, .ref dc, .ref cm, .ref fo])), (dc, .inl (cV, 3, .inr (.inr (.inr (.inr h)))))] ++ fz) ∧ EX em aK aV (va_A ([(x, .inr (0, [.int (nI lim), .int (nI rm), .ref dl, .int (nI n), .ref sb, .ref dc, .ref cm, .ref fo])), (dc, .inl (cV, 3, .inr (.inr (.inr (.inr h)))))] ++ fz) sz) U U.heap)) (va_Qi (fun (r : Int32) (u : Unit) => r = (match docK D k with | none => -1 | some w => if i < 0 then -1 else (emz i (0, -1) (txt w)).2)) (fun u t => va_P (dC, dI) vwCl ([(x, .inr (0, [.int (nI lim), .int (nI rm), .ref dl, .int (nI n), .ref sb, .ref dc, .ref cm, .ref fo])), (dc, .inl (cV, 3, .inr (.inr (.inr (.inr h)))))] ++ fz) t.heap ∧ va_K (dC, dI) vwCl [(cV, .object "PatchStore$Value"), (cB, .byte), (cO, .object "java/lang/Object")] t ∧ va_D (va_A ([(x, .inr (0, [.int (nI lim), .int (nI rm), .ref dl, .int (nI n), .ref sb, .ref dc, .ref cm, .ref fo])), (dc, .inl (cV, 3, .inr (.inr (.inr (.inr h)))))] ++ fz) sz) ([(x, .inr (0, [.int (nI lim), .int (nI rm), .ref dl, .int (nI n), .ref sb, .ref dc, .ref cm, .ref fo])), (dc, .inl (cV, 3, .inr (.inr (.inr (.inr h)))))] ++ fz)) (va_A ([(x, .inr (0, [.int (nI lim), .int (nI rm), .ref dl, .int (nI n), .ref sb, .ref dc, .ref cm, .ref fo])), (dc, .inl (cV, 3, .inr (.inr (.inr (.inr h)))))] ++ fz) sz)) 1 3 (va_A ([(x, .inr (0, [.int (nI lim), .int (nI rm), .ref dl, .int (nI n), .ref sb, .ref dc, .ref cm, .ref fo])), (dc, .inl (cV, 3, .inr (.inr (.inr (.inr h)))))] ++ fz) sz) := by
  refine Met.ofW (cc := c_PS_letter) (maxL := 3) (ret := (some .int)) (by decide) rfl ?_
  intro p e s m args below meth c s₁ B hml hv
  obtain ⟨rfl, hsz, hP, hK, hD0, hE⟩ := hv
  have hx := B.exec
  have hb := B.bytes
  have hr := B.returns
  have hts := atoms_spec (ws := ws_PS_letter) B.pre
  have htb := fun w (h : w ∈ TBL) => hts w (List.mem_cons_of_mem _ h)
  have hown : s.vm.findClass R_PS = some m.cls := findClass_of_methodNamed B.named
  have hlocks := B.notSynchronized
  subst hsz
  have hD := hD0.self (sz := s.heap.size)
  generalize hAe : va_A ([(x, .inr (0, [.int (nI lim), .int (nI rm), .ref dl, .int (nI n), .ref sb, .ref dc, .ref cm, .ref fo])), (dc, .inl (cV, 3, .inr (.inr (.inr (.inr h)))))] ++ fz) s.heap.size = A at hD hE ⊢
  have hA : ∀ q : Nat, s.heap.size ≤ q → A q := fun q h => by rw [← hAe]; exact Or.inr h
  have hS : va_S A s.heap s.heap [] := va_S.rf
  have hP : va_P (dC, dI) vwCl ([(x, .inr (0, [.int (nI lim), .int (nI rm), .ref dl, .int (nI n), .ref sb, .ref dc, .ref cm, .ref fo])), (dc, .inl (cV, 3, .inr (.inr (.inr (.inr h)))))] ++ fz) s.heap := hP
  have hl := lv_entry ([.ref x, .int k, .int i]) (n := 3) (Nat.le_of_ble_eq_true rfl)
  rw [lg_entry_eq]
  generalize (lg_sl ([.ref x, .int k, .int i]) ++ List.replicate (3 - (lg_sl ([.ref x, .int k, .int i])).length) Slot.unset).toArray = ls at hl ⊢
  have hl : lv_has ls 3 [(0, .ref x), (1, .int k), (2, .int i)] := hl
  refine lv_aload_n hx hb d_PS_letter_0 rfl (lv_at hl 0 rfl) ?_
  refine lv_iload_n hx hb d_PS_letter_1 rfl (lv_at hl 1 rfl) ?_
  have hPc : va_P (dC, dI) vwCl [(x, .inr (0, [.int (nI lim), .int (nI rm), .ref dl, .int (nI n), .ref sb, .ref dc, .ref cm, .ref fo])), (dc, .inl (cV, 3, .inr (.inr (.inr (.inr h)))))] _ := hP.sub (ws' := [(x, .inr (0, [.int (nI lim), .int (nI rm), .ref dl, .int (nI n), .ref sb, .ref dc, .ref cm, .ref fo])), (dc, .inl (cV, 3, .inr (.inr (.inr (.inr h)))))]) [0, 1] rfl
  have hKc := hK.sub (tys' := [(cV, .object "PatchStore$Value")]) [0] rfl
  refine va_csq (W.runV (As := [.int k]) (rest := []) ⟨hx, hb, hml, hown, htb⟩ (q_PS_documentAt l dC dI x lim rm dl sb dc cm fo n cV h k ) (cwV 1 htb (g_V (fun _ h => h) m_577 m_574 m_576 m_1633 m_1) rfl rfl rfl (by decide +kernel) ⟨Nat.le_of_ble_eq_true rfl, Nat.le_of_ble_eq_true rfl⟩) ⟨fun a U g mk q => by obtain ⟨q0, qP, qK⟩ := q; exact ⟨q0, qP, va_K.moved (u := U) (U := U.calling g mk a) (Vm.Alike.refl U.vm) qK⟩, va_recv hKc hPc (ci := 0) rfl (q0 := 0) rfl, fun U hU hW => ⟨rfl, by rw [hU]; exact hPc, va_K.moved hW.alike hKc⟩⟩ rfl rfl hl.1 rfl (lv_room (Nat.le_of_ble_eq_true rfl)) d_PS_letter_2 ⟨Nat.le_of_ble_eq_true rfl, Nat.le_of_ble_eq_true rfl⟩) (fun r1 hw2 => ?_)
  have hw2 : ((k < 0 ∨ 3 ≤ k) ∧ r1 = none) ∨ (¬ (k < 0 ∨ 3 ≤ k) ∧ r1 = h k.toNatClampNeg) := hw2
  have hdk : (r1 = none ∧ docK D k = none) ∨ ∃ (a9 : Nat) (n9 : List Nat) (w9 : List Row), r1 = some a9 ∧ docK D k = some w9 ∧ VT cB cO em aK 13 fz a9 n9 w9 ∧ h k.toNatClampNeg = some a9 ∧ ¬ k < 0 ∧ ¬ 3 ≤ k := dk_of hdoc hw2
  rcases hdk with ⟨rfl, hdk⟩ | ⟨a9, n9, w9, rfl, hdk, hv9, hh9, hk0, hk3⟩
  · refine W.eq (g2 := F0 m 5 ls [.null]) rfl ?_
    refine lv_iload_n hx hb d_PS_letter_5 rfl (lv_at hl 2 rfl) ?_
    have hPc := hP.sub (ws' := []) [] rfl
    have hDc := hD.sub (ws' := []) [] (by decide) rfl
    have hFc := va_free (wc := []) hD hS hA [] rfl
    have hKc := hK.sub (tys' := []) [] rfl
    refine va_calli (va_runS (As := [.null, .int i]) (rest := []) ⟨hx, hb, hml, hown, htb⟩ (k_PS_letterOfN l dC dI _ i ) (va_cwS 2 htb (g_S (fun _ h => h) m_1101 m_1099 m_1100 m_1) rfl rfl rfl (by decide +kernel) ⟨Nat.le_of_ble_eq_true rfl, Nat.le_of_ble_eq_true rfl⟩) ⟨fun a U g mk q => by obtain ⟨q0, q1, qP, qK, qD⟩ := q; exact ⟨q0, q1, qP, va_K.moved (u := U) (U := U.calling g mk a) (Vm.Alike.refl U.vm) qK, qD⟩, fun U hU hW => ⟨rfl, by rw [hU], by rw [hU]; exact hPc, va_K.moved hW.alike hKc, hDc.weaken (fun _ _ _ _ => trivial)⟩⟩ rfl rfl hl.1 rfl (lv_room (Nat.le_of_ble_eq_true rfl)) d_PS_letter_6 ⟨Nat.le_of_ble_eq_true rfl, Nat.le_of_ble_eq_true rfl⟩) hS (fun q _ h => hFc q h) hFc (fun r4 u3 t H1 locs ht hvm hw5 hB hz1 hk1 hS => ?_)
    obtain ⟨hP1, hK1, hD1⟩ := hB
    rw [ht] at hP1
    have hK1 := va_K.moved hvm.symm hK1
    have hw5 : r4 = -1 := hw5
    obtain ⟨hP, hD⟩ := zz_joinN (pre := [(x, .inr (0, [.int (nI lim), .int (nI rm), .ref dl, .int (nI n), .ref sb, .ref dc, .ref cm, .ref fo])), (dc, .inl (cV, 3, .inr (.inr (.inr (.inr h)))))]) (fz := fz) (wc := []) (wr := [(x, .inr (0, [.int (nI lim), .int (nI rm), .ref dl, .int (nI n), .ref sb, .ref dc, .ref cm, .ref fo])), (dc, .inl (cV, 3, .inr (.inr (.inr (.inr h)))))]) (w1 := []) hP hD [] [0, 1] rfl rfl (by decide) (by decide) hk1 hFc hP1 hD1
    have hK := (hK.sub (tys' := [(cV, .object "PatchStore$Value"), (cB, .byte), (cO, .object "java/lang/Object")]) [0, 1, 2] rfl).app hK1
    generalize H1 = H at hP hS ⊢
    have hP : va_P (dC, dI) vwCl ([(x, .inr (0, [.int (nI lim), .int (nI rm), .ref dl, .int (nI n), .ref sb, .ref dc, .ref cm, .ref fo])), (dc, .inl (cV, 3, .inr (.inr (.inr (.inr h)))))] ++ fz) H := hP
    have hD : va_D A ([(x, .inr (0, [.int (nI lim), .int (nI rm), .ref dl, .int (nI n), .ref sb, .ref dc, .ref cm, .ref fo])), (dc, .inl (cV, 3, .inr (.inr (.inr (.inr h)))))] ++ fz) := hD
    have hK : va_K (dC, dI) vwCl [(cV, .object "PatchStore$Value"), (cB, .byte), (cO, .object "java/lang/Object")] s := hK
    have hP9 := zz_pickP (pre := [(x, .inr (0, [.int (nI lim), .int (nI rm), .ref dl, .int (nI n), .ref sb, .ref dc, .ref cm, .ref fo])), (dc, .inl (cV, 3, .inr (.inr (.inr (.inr h)))))]) (fz := fz) (wc := [(x, .inr (0, [.int (nI lim), .int (nI rm), .ref dl, .int (nI n), .ref sb, .ref dc, .ref cm, .ref fo])), (dc, .inl (cV, 3, .inr (.inr (.inr (.inr h)))))]) hP [0, 1] rfl
    have hD9 := zz_pickD (pre := [(x, .inr (0, [.int (nI lim), .int (nI rm), .ref dl, .int (nI n), .ref sb, .ref dc, .ref cm, .ref fo])), (dc, .inl (cV, 3, .inr (.inr (.inr (.inr h)))))]) (fz := fz) (wc := [(x, .inr (0, [.int (nI lim), .int (nI rm), .ref dl, .int (nI n), .ref sb, .ref dc, .ref cm, .ref fo])), (dc, .inl (cV, 3, .inr (.inr (.inr (.inr h)))))]) hD [0, 1] (by decide) rfl
    have hK9 := hK.sub (tys' := [(cV, .object "PatchStore$Value"), (cB, .byte), (cO, .object "java/lang/Object")]) [0, 1, 2] rfl
    refine W.widen (k := 1) (n := 3) (Nat.le_of_ble_eq_true rfl) (Nat.le_of_ble_eq_true rfl) ?_
    exact W.iret (v := r4) hx hb hr (fun t ht hW => ⟨⟨r4, (), rfl, by rw [hdk]; exact hw5, ⟨by rw [ht]; exact hP9, va_K.moved hW.alike hK9, hD9⟩⟩, hS.F ht⟩) hS.2.2 d_PS_letter_9
  · refine W.eq (g2 := F0 m 5 ls [.ref a9]) rfl ?_
    refine lv_iload_n hx hb d_PS_letter_5 rfl (lv_at hl 2 rfl) ?_
    have hPc := zz_pickP (pre := [(x, .inr (0, [.int (nI lim), .int (nI rm), .ref dl, .int (nI n), .ref sb, .ref dc, .ref cm, .ref fo])), (dc, .inl (cV, 3, .inr (.inr (.inr (.inr h)))))]) (fz := fz) (wc := []) hP [] rfl
    have hDc := zz_pickD (pre := [(x, .inr (0, [.int (nI lim), .int (nI rm), .ref dl, .int (nI n), .ref sb, .ref dc, .ref cm, .ref fo])), (dc, .inl (cV, 3, .inr (.inr (.inr (.inr h)))))]) (fz := fz) (wc := []) hD [] (by decide) rfl
    have hFc := zz_free (pre := [(x, .inr (0, [.int (nI lim), .int (nI rm), .ref dl, .int (nI n), .ref sb, .ref dc, .ref cm, .ref fo])), (dc, .inl (cV, 3, .inr (.inr (.inr (.inr h)))))]) (fz := fz) (wc := []) hD hS hA [] rfl
    have hKc := hK.sub (tys' := [(cB, .byte), (cO, .object "java/lang/Object")]) [1, 2] rfl
    refine va_calli (va_runS (As := [.ref a9, .int i]) (rest := []) ⟨hx, hb, hml, hown, htb⟩ (k_PS_letterOf l dC dI _ a9 n9 w9 cB cO i em aK aV fz hv9) (va_cwS 2 htb (g_S (fun _ h => h) m_1101 m_1099 m_1100 m_1) rfl rfl rfl (by decide +kernel) ⟨Nat.le_of_ble_eq_true rfl, Nat.le_of_ble_eq_true rfl⟩) ⟨fun a U g mk q => by obtain ⟨q0, q1, qP, qK, qD, z0⟩ := q; exact ⟨q0, q1, qP, va_K.moved (u := U) (U := U.calling g mk a) (Vm.Alike.refl U.vm) qK, qD, EX.same (U := U) (U' := U.calling g mk a) rfl z0⟩, fun U hU hW => ⟨rfl, by rw [hU], by rw [hU]; exact hPc, va_K.moved hW.alike hKc, hDc.weaken (fun _ _ _ _ => trivial), by rw [hU]; exact EX.warm hW ((hE.kept (fun a h1 h2 => hS.2.1 a h1 h2)).narrow hFc)⟩⟩ rfl rfl hl.1 rfl (lv_room (Nat.le_of_ble_eq_true rfl)) d_PS_letter_6 ⟨Nat.le_of_ble_eq_true rfl, Nat.le_of_ble_eq_true rfl⟩) hS (fun q _ h => hFc q h) hFc (fun r4 u3 t H1 locs ht hvm hw5 hB hz1 hk1 hS => ?_)
    obtain ⟨hP1, hK1, hD1⟩ := hB
    rw [ht] at hP1
    have hK1 := va_K.moved hvm.symm hK1
    have hw5 : r4 = if i < 0 then -1 else (emz i (0, -1) (txt w9)).2 := hw5
    obtain ⟨hP, hD⟩ := zz_join (pre := [(x, .inr (0, [.int (nI lim), .int (nI rm), .ref dl, .int (nI n), .ref sb, .ref dc, .ref cm, .ref fo])), (dc, .inl (cV, 3, .inr (.inr (.inr (.inr h)))))]) (fz := fz) (wc := []) (wr := [(x, .inr (0, [.int (nI lim), .int (nI rm), .ref dl, .int (nI n), .ref sb, .ref dc, .ref cm, .ref fo])), (dc, .inl (cV, 3, .inr (.inr (.inr (.inr h)))))]) (w1 := ([] ++ fz)) hP hD [] [0, 1] rfl rfl (by decide) (by decide) hk1 hFc hP1 hD1
    have hK := (hK.sub (tys' := [(cV, .object "PatchStore$Value")]) [0] rfl).app hK1
    generalize H1 = H at hP hS ⊢
    have hP : va_P (dC, dI) vwCl ([(x, .inr (0, [.int (nI lim), .int (nI rm), .ref dl, .int (nI n), .ref sb, .ref dc, .ref cm, .ref fo])), (dc, .inl (cV, 3, .inr (.inr (.inr (.inr h)))))] ++ fz) H := hP
    have hD : va_D A ([(x, .inr (0, [.int (nI lim), .int (nI rm), .ref dl, .int (nI n), .ref sb, .ref dc, .ref cm, .ref fo])), (dc, .inl (cV, 3, .inr (.inr (.inr (.inr h)))))] ++ fz) := hD
    have hK : va_K (dC, dI) vwCl [(cV, .object "PatchStore$Value"), (cB, .byte), (cO, .object "java/lang/Object")] s := hK
    refine W.widen (k := 1) (n := 3) (Nat.le_of_ble_eq_true rfl) (Nat.le_of_ble_eq_true rfl) ?_
    have hP9 := zz_pickP (pre := [(x, .inr (0, [.int (nI lim), .int (nI rm), .ref dl, .int (nI n), .ref sb, .ref dc, .ref cm, .ref fo])), (dc, .inl (cV, 3, .inr (.inr (.inr (.inr h)))))]) (fz := fz) (wc := [(x, .inr (0, [.int (nI lim), .int (nI rm), .ref dl, .int (nI n), .ref sb, .ref dc, .ref cm, .ref fo])), (dc, .inl (cV, 3, .inr (.inr (.inr (.inr h)))))]) hP [0, 1] rfl
    have hD9 := zz_pickD (pre := [(x, .inr (0, [.int (nI lim), .int (nI rm), .ref dl, .int (nI n), .ref sb, .ref dc, .ref cm, .ref fo])), (dc, .inl (cV, 3, .inr (.inr (.inr (.inr h)))))]) (fz := fz) (wc := [(x, .inr (0, [.int (nI lim), .int (nI rm), .ref dl, .int (nI n), .ref sb, .ref dc, .ref cm, .ref fo])), (dc, .inl (cV, 3, .inr (.inr (.inr (.inr h)))))]) hD [0, 1] (by decide) rfl
    have hK9 := hK.sub (tys' := [(cV, .object "PatchStore$Value"), (cB, .byte), (cO, .object "java/lang/Object")]) [0, 1, 2] rfl
    refine W.widen (k := 1) (n := 3) (Nat.le_of_ble_eq_true rfl) (Nat.le_of_ble_eq_true rfl) ?_
    exact W.iret (v := r4) hx hb hr (fun t ht hW => ⟨⟨r4, (), rfl, by rw [hdk]; exact hw5, ⟨by rw [ht]; exact hP9, va_K.moved hW.alike hK9, hD9⟩⟩, hS.F ht⟩) hS.2.2 d_PS_letter_9
set_option maxHeartbeats 1000000 in
set_option maxRecDepth 100000 in
/-- results() -/
theorem k_PS_results (l : Launch) (dC : Nat → ClassId) (dI : Nat → Nat → Nat) (sz : Nat) (x : Nat) (lim : Nat) (rm : Nat) (dl : Nat) (sb : Nat) (dc : Nat) (cm : Nat) (fo : Nat) (n : Nat) (xs : List Nat) (cB : ClassId) (cO : ClassId) (em : Nat) (aK : Nat → Nat) (aV : Nat → Nat) (fz : va_W) (hal : ALz cO em fz fo xs) : Met l y_PS_results ws_PS_results ({ frames := 1, cells := 0, slots := 0, locals := 20 }) (va_Pc [.ref x] (fun U => U.heap.size = sz ∧ va_P (dC, dI) vwCl ([(x, .inr (0, [.int (nI lim), .int (nI rm), .ref dl, .int (nI n), .ref sb, .ref dc, .ref cm, .ref fo]))] ++ fz) U.heap ∧ va_K (dC, dI) vwCl [(cO, .object "java/lang/Object")] U ∧ va_D (fun _ => True) ([(x, .inr (0, [.int (nI lim), .int (nI rm), .ref dl, .int (nI n), .ref sb, .ref dc, .ref cm, .ref fo]))] ++ fz))) (va_Qi (fun (r : Int32) (u : Unit) => r = nI xs.length) (fun u t => va_P (dC, dI) vwCl ([(x, .inr (0, [.int (nI lim), .int (nI rm), .ref dl, .int (nI n), .ref sb, .ref dc, .ref cm, .ref fo]))] ++ fz) t.heap ∧ va_K (dC, dI) vwCl [(cO, .object "java/lang/Object")] t ∧ va_D (va_A ([(x, .inr (0, [.int (nI lim), .int (nI rm), .ref dl, .int (nI n), .ref sb, .ref dc, .ref cm, .ref fo]))] ++ fz) sz) ([(x, .inr (0, [.int (nI lim), .int (nI rm), .ref dl, .int (nI n), .ref sb, .ref dc, .ref cm, .ref fo]))] ++ fz)) (va_A ([(x, .inr (0, [.int (nI lim), .int (nI rm), .ref dl, .int (nI n), .ref sb, .ref dc, .ref cm, .ref fo]))] ++ fz) sz)) 0 0 (va_A ([(x, .inr (0, [.int (nI lim), .int (nI rm), .ref dl, .int (nI n), .ref sb, .ref dc, .ref cm, .ref fo]))] ++ fz) sz) := by
  refine Met.ofW (cc := c_PS_results) (maxL := 1) (ret := (some .int)) (by decide) rfl ?_
  intro p e s m args below meth c s₁ B hml hv
  obtain ⟨rfl, hsz, hP, hK, hD0⟩ := hv
  have hx := B.exec
  have hb := B.bytes
  have hr := B.returns
  have hts := atoms_spec (ws := ws_PS_results) B.pre
  have htb := fun w (h : w ∈ TBL) => hts w (List.mem_cons_of_mem _ h)
  have hown : s.vm.findClass R_PS = some m.cls := findClass_of_methodNamed B.named
  have hlocks := B.notSynchronized
  subst hsz
  have hD := hD0.self (sz := s.heap.size)
  generalize hAe : va_A ([(x, .inr (0, [.int (nI lim), .int (nI rm), .ref dl, .int (nI n), .ref sb, .ref dc, .ref cm, .ref fo]))] ++ fz) s.heap.size = A at hD ⊢
  have hA : ∀ q : Nat, s.heap.size ≤ q → A q := fun q h => by rw [← hAe]; exact Or.inr h
  have hS : va_S A s.heap s.heap [] := va_S.rf
  have hP : va_P (dC, dI) vwCl ([(x, .inr (0, [.int (nI lim), .int (nI rm), .ref dl, .int (nI n), .ref sb, .ref dc, .ref cm, .ref fo]))] ++ fz) s.heap := hP
  have hl := lv_entry ([.ref x]) (n := 1) (Nat.le_of_ble_eq_true rfl)
  rw [lg_entry_eq]
  generalize (lg_sl ([.ref x]) ++ List.replicate (1 - (lg_sl ([.ref x])).length) Slot.unset).toArray = ls at hl ⊢
  have hl : lv_has ls 1 [(0, .ref x)] := hl
  refine lv_aload_n hx hb d_PS_results_0 rfl (lv_at hl 0 rfl) ?_
  refine va_get (D := (dC, dI)) (ci := 0) (v := .ref fo) (C := R_PS) (T := T_PS) (N := 8) hx hb htb in_PS hown hK hP 0 rfl rfl 7 (by decide) (htb _ m_106) (fun _ h9 => h9) rfl d_PS_results_1 ?_
  have hPc : va_P (dC, dI) vwCl ([] ++ fz) _ := zz_tlP (pre := [(x, .inr (0, [.int (nI lim), .int (nI rm), .ref dl, .int (nI n), .ref sb, .ref dc, .ref cm, .ref fo]))]) (tl := fz) hP
  have hKc := hK.sub (tys' := []) [] rfl
  refine vp_callSi (W.runV (As := []) (rest := []) ⟨hx, hb, hml, hown, htb⟩ (z_AL_size l dC dI fo xs cO em fz hal) (cwV 0 htb (g_V (fun _ h => h) m_486 m_996 m_484 m_485 m_8) rfl rfl rfl (by decide +kernel) ⟨Nat.le_of_ble_eq_true rfl, Nat.le_of_ble_eq_true rfl⟩) ⟨fun a U g mk q => by obtain ⟨q0, qP, qK⟩ := q; exact ⟨q0, qP, va_K.moved (u := U) (U := U.calling g mk a) (Vm.Alike.refl U.vm) qK⟩, (hal).recv hK hP (fun q hq => List.mem_append_right _ hq), fun U hU hW => ⟨rfl, by rw [hU]; exact hPc, va_K.moved hW.alike hKc⟩⟩ rfl rfl hl.1 rfl (lv_room (Nat.le_of_ble_eq_true rfl)) d_PS_results_4 ⟨Nat.le_of_ble_eq_true rfl, Nat.le_of_ble_eq_true rfl⟩) (fun r1 hw2 => ?_)
  have hw2 : r1 = nI xs.length := hw2
  obtain rfl := hw2
  have hP9 := zz_pickP (pre := [(x, .inr (0, [.int (nI lim), .int (nI rm), .ref dl, .int (nI n), .ref sb, .ref dc, .ref cm, .ref fo]))]) (fz := fz) (wc := [(x, .inr (0, [.int (nI lim), .int (nI rm), .ref dl, .int (nI n), .ref sb, .ref dc, .ref cm, .ref fo]))]) hP [0] rfl
  have hD9 := zz_pickD (pre := [(x, .inr (0, [.int (nI lim), .int (nI rm), .ref dl, .int (nI n), .ref sb, .ref dc, .ref cm, .ref fo]))]) (fz := fz) (wc := [(x, .inr (0, [.int (nI lim), .int (nI rm), .ref dl, .int (nI n), .ref sb, .ref dc, .ref cm, .ref fo]))]) hD [0] (by decide) rfl
  have hK9 := hK.sub (tys' := [(cO, .object "java/lang/Object")]) [0] rfl
  refine W.widen (k := 0) (n := 0) (Nat.le_of_ble_eq_true rfl) (Nat.le_of_ble_eq_true rfl) ?_
  exact W.iret (v := (nI xs.length)) hx hb hr (fun t ht hW => ⟨⟨(nI xs.length), (), rfl, rfl, ⟨by rw [ht]; exact hP9, va_K.moved hW.alike hK9, hD9⟩⟩, hS.F ht⟩) hS.2.2 d_PS_results_7
set_option maxHeartbeats 1000000 in
set_option maxRecDepth 100000 in
/-- shown(k, i) -/
theorem k_PS_shown (l : Launch) (dC : Nat → ClassId) (dI : Nat → Nat → Nat) (sz : Nat) (x : Nat) (lim : Nat) (rm : Nat) (dl : Nat) (sb : Nat) (dc : Nat) (cm : Nat) (fo : Nat) (n : Nat) (xs : List Nat) (cB : ClassId) (cO : ClassId) (em : Nat) (aK : Nat → Nat) (aV : Nat → Nat) (rs : List (List Row)) (k : Int32) (i : Int32) (fz : va_W) (hal : ALz cO em fz fo xs) (hrs : rs.length = xs.length) (hvl : ∀ q, q < xs.length → ∃ nn, VT cB cO em aK 13 fz (xs.getD q 0) nn (rs.getD q [])) : Met l y_PS_shown ws_PS_shown ({ frames := 42, cells := 1, slots := 3, locals := 1040 }) (va_Pc [.ref x, .int k, .int i] (fun U => U.heap.size = sz ∧ va_P (dC, dI) vwCl ([(x, .inr (0, [.int (nI lim), .int (nI rm), .ref dl, .int (nI n), .ref sb, .ref dc, .ref cm, .ref fo]))] ++ fz) U.heap ∧ va_K (dC, dI) vwCl [(cB, .byte), (cO, .object "java/lang/Object")] U ∧ va_D (fun _ => True) ([(x, .inr (0, [.int (nI lim), .int (nI rm), .ref dl, .int (nI n), .ref sb, .ref dc, .ref cm, .ref fo]))] ++ fz) ∧ EX em aK aV (va_A ([(x, .inr (0, [.int (nI lim), .int (nI rm), .ref dl, .int (nI n), .ref sb, .ref dc, .ref cm, .ref fo]))] ++ fz) sz) U U.heap)) (va_Qi (fun (r : Int32) (u : Unit) => r = if k < 0 ∨ nI rs.length ≤ k then -1 else if i < 0 then -1 else (emz i (0, -1) (txt (rs.getD k.toNatClampNeg []))).2) (fun u t => va_P (dC, dI) vwCl ([(x, .inr (0, [.int (nI lim), .int (nI rm), .ref dl, .int (nI n), .ref sb, .ref dc, .ref cm, .ref fo]))] ++ fz) t.heap ∧ va_K (dC, dI) vwCl [(cB, .byte), (cO, .object "java/lang/Object")] t ∧ va_D (va_A ([(x, .inr (0, [.int (nI lim), .int (nI rm), .ref dl, .int (nI n), .ref sb, .ref dc, .ref cm, .ref fo]))] ++ fz) sz) ([(x, .inr (0, [.int (nI lim), .int (nI rm), .ref dl, .int (nI n), .ref sb, .ref dc, .ref cm, .ref fo]))] ++ fz)) (va_A ([(x, .inr (0, [.int (nI lim), .int (nI rm), .ref dl, .int (nI n), .ref sb, .ref dc, .ref cm, .ref fo]))] ++ fz) sz)) 1 3 (va_A ([(x, .inr (0, [.int (nI lim), .int (nI rm), .ref dl, .int (nI n), .ref sb, .ref dc, .ref cm, .ref fo]))] ++ fz) sz) := by
  refine Met.ofW (cc := c_PS_shown) (maxL := 3) (ret := (some .int)) (by decide) rfl ?_
  intro p e s m args below meth c s₁ B hml hv
  obtain ⟨rfl, hsz, hP, hK, hD0, hE⟩ := hv
  have hx := B.exec
  have hb := B.bytes
  have hr := B.returns
  have hts := atoms_spec (ws := ws_PS_shown) B.pre
  have htb := fun w (h : w ∈ TBL) => hts w (List.mem_cons_of_mem _ h)
  have hown : s.vm.findClass R_PS = some m.cls := findClass_of_methodNamed B.named
  have hlocks := B.notSynchronized
  subst hsz
  have hD := hD0.self (sz := s.heap.size)
  generalize hAe : va_A ([(x, .inr (0, [.int (nI lim), .int (nI rm), .ref dl, .int (nI n), .ref sb, .ref dc, .ref cm, .ref fo]))] ++ fz) s.heap.size = A at hD hE ⊢
  have hA : ∀ q : Nat, s.heap.size ≤ q → A q := fun q h => by rw [← hAe]; exact Or.inr h
  have hS : va_S A s.heap s.heap [] := va_S.rf
  have hP : va_P (dC, dI) vwCl ([(x, .inr (0, [.int (nI lim), .int (nI rm), .ref dl, .int (nI n), .ref sb, .ref dc, .ref cm, .ref fo]))] ++ fz) s.heap := hP
  have hl := lv_entry ([.ref x, .int k, .int i]) (n := 3) (Nat.le_of_ble_eq_true rfl)
  rw [lg_entry_eq]
  generalize (lg_sl ([.ref x, .int k, .int i]) ++ List.replicate (3 - (lg_sl ([.ref x, .int k, .int i])).length) Slot.unset).toArray = ls at hl ⊢
  have hl : lv_has ls 3 [(0, .ref x), (1, .int k), (2, .int i)] := hl
  have h160 := hal.1
  refine lv_iload_n hx hb d_PS_shown_0 rfl (lv_at hl 1 rfl) ?_
  refine lv_if_lt (tgt := 15) hx hb d_PS_shown_1 rfl (fun h1 => ?_) (fun h1 => ?_)
  · refine lv_iconst (v := (-1)) hx hb d_PS_shown_15 (by decide) ?_
    have hP9 := zz_pickP (pre := [(x, .inr (0, [.int (nI lim), .int (nI rm), .ref dl, .int (nI n), .ref sb, .ref dc, .ref cm, .ref fo]))]) (fz := fz) (wc := [(x, .inr (0, [.int (nI lim), .int (nI rm), .ref dl, .int (nI n), .ref sb, .ref dc, .ref cm, .ref fo]))]) hP [0] rfl
    have hD9 := zz_pickD (pre := [(x, .inr (0, [.int (nI lim), .int (nI rm), .ref dl, .int (nI n), .ref sb, .ref dc, .ref cm, .ref fo]))]) (fz := fz) (wc := [(x, .inr (0, [.int (nI lim), .int (nI rm), .ref dl, .int (nI n), .ref sb, .ref dc, .ref cm, .ref fo]))]) hD [0] (by decide) rfl
    have hK9 := hK.sub (tys' := [(cB, .byte), (cO, .object "java/lang/Object")]) [0, 1] rfl
    refine W.widen (k := 1) (n := 3) (Nat.le_of_ble_eq_true rfl) (Nat.le_of_ble_eq_true rfl) ?_
    exact W.iret (v := (-1)) hx hb hr (fun t ht hW => ⟨⟨(-1), (), rfl, by rw [if_pos (Or.inl h1)], ⟨by rw [ht]; exact hP9, va_K.moved hW.alike hK9, hD9⟩⟩, hS.F ht⟩) hS.2.2 d_PS_shown_16
  · refine lv_iload_n hx hb d_PS_shown_4 rfl (lv_at hl 1 rfl) ?_
    refine lv_aload_n hx hb d_PS_shown_5 rfl (lv_at hl 0 rfl) ?_
    refine va_get (D := (dC, dI)) (ci := 0) (v := .ref fo) (C := R_PS) (T := T_PS) (N := 8) hx hb htb in_PS hown hK hP 0 rfl rfl 7 (by decide) (htb _ m_106) (fun _ h9 => h9) rfl d_PS_shown_6 ?_
    have hPc : va_P (dC, dI) vwCl ([] ++ fz) _ := zz_tlP (pre := [(x, .inr (0, [.int (nI lim), .int (nI rm), .ref dl, .int (nI n), .ref sb, .ref dc, .ref cm, .ref fo]))]) (tl := fz) hP
    have hKc := hK.sub (tys' := []) [] rfl
    refine vp_callSi (W.runV (As := []) (rest := [.int k]) ⟨hx, hb, hml, hown, htb⟩ (z_AL_size l dC dI fo xs cO em fz hal) (cwV 0 htb (g_V (fun _ h => h) m_486 m_996 m_484 m_485 m_8) rfl rfl rfl (by decide +kernel) ⟨Nat.le_of_ble_eq_true rfl, Nat.le_of_ble_eq_true rfl⟩) ⟨fun a U g mk q => by obtain ⟨q0, qP, qK⟩ := q; exact ⟨q0, qP, va_K.moved (u := U) (U := U.calling g mk a) (Vm.Alike.refl U.vm) qK⟩, (hal).recv hK hP (fun q hq => List.mem_append_right _ hq), fun U hU hW => ⟨rfl, by rw [hU]; exact hPc, va_K.moved hW.alike hKc⟩⟩ rfl rfl hl.1 rfl (lv_room (Nat.le_of_ble_eq_true rfl)) d_PS_shown_9 ⟨Nat.le_of_ble_eq_true rfl, Nat.le_of_ble_eq_true rfl⟩) (fun r1 hw2 => ?_)
    have hw2 : r1 = nI xs.length := hw2
    obtain rfl := hw2
    refine lv_icmp_lt (tgt := 17) hx hb d_PS_shown_12 rfl (fun h2 => ?_) (fun h2 => ?_)
    · have hkn : k.toNatClampNeg < xs.length ∧ k = nI k.toNatClampNeg := in_of h1 h2 (by omega)
      obtain ⟨n9, hv9⟩ := hvl _ hkn.1
      obtain ⟨d0, kd0, tx0, nu0, nm0, pa0, dp0, cn0, hm0, hdp0, hcn0⟩ := hv9.cell
      refine lv_aload_n hx hb d_PS_shown_17 rfl (lv_at hl 0 rfl) ?_
      refine va_get (D := (dC, dI)) (ci := 0) (v := .ref fo) (C := R_PS) (T := T_PS) (N := 8) hx hb htb in_PS hown hK hP 0 rfl rfl 7 (by decide) (htb _ m_106) (fun _ h9 => h9) rfl d_PS_shown_18 ?_
      refine lv_iload_n hx hb d_PS_shown_21 rfl (lv_at hl 1 rfl) ?_
      refine W.eq (congrArg (fun z99 => F0 m 22 ls (.int z99 :: [.ref fo])) (hkn.2 : k = nI k.toNatClampNeg)) ?_
      have hPc : va_P (dC, dI) vwCl ([] ++ fz) _ := zz_tlP (pre := [(x, .inr (0, [.int (nI lim), .int (nI rm), .ref dl, .int (nI n), .ref sb, .ref dc, .ref cm, .ref fo]))]) (tl := fz) hP
      have hKc := hK.sub (tys' := [(cO, .object "java/lang/Object")]) [1] rfl
      refine va_csq (W.runV (As := [.int (nI k.toNatClampNeg)]) (rest := []) ⟨hx, hb, hml, hown, htb⟩ (z_AL_get l dC dI fo xs cO em k.toNatClampNeg fz hal hkn.1) (cwV 1 htb (g_V (fun _ h => h) m_490 m_997 m_488 m_489 m_8) rfl rfl rfl (by decide +kernel) ⟨Nat.le_of_ble_eq_true rfl, Nat.le_of_ble_eq_true rfl⟩) ⟨fun a U g mk q => by obtain ⟨q0, qP, qK⟩ := q; exact ⟨q0, qP, va_K.moved (u := U) (U := U.calling g mk a) (Vm.Alike.refl U.vm) qK⟩, (hal).recv hK hP (fun q hq => List.mem_append_right _ hq), fun U hU hW => ⟨rfl, by rw [hU]; exact hPc, va_K.moved hW.alike hKc⟩⟩ rfl rfl hl.1 rfl (lv_room (Nat.le_of_ble_eq_true rfl)) d_PS_shown_22 ⟨Nat.le_of_ble_eq_true rfl, Nat.le_of_ble_eq_true rfl⟩) (fun r3 hw4 => ?_)
      have hw4 : r3 = some (xs.getD k.toNatClampNeg 0) := hw4
      obtain rfl := hw4
      refine W.eq (g2 := F0 m 25 ls [.ref (xs.getD k.toNatClampNeg 0)]) rfl ?_
      refine va_castY (C := "PatchStore$Value") hx hb hown (htb _ m_71) (nw_14 hE) (zz_recv hK hP (ci := 3) rfl (List.mem_append_right _ hm0)) d_PS_shown_25 ?_
      refine lv_iload_n hx hb d_PS_shown_28 rfl (lv_at hl 2 rfl) ?_
      have hPc := zz_pickP (pre := [(x, .inr (0, [.int (nI lim), .int (nI rm), .ref dl, .int (nI n), .ref sb, .ref dc, .ref cm, .ref fo]))]) (fz := fz) (wc := []) hP [] rfl
      have hDc := zz_pickD (pre := [(x, .inr (0, [.int (nI lim), .int (nI rm), .ref dl, .int (nI n), .ref sb, .ref dc, .ref cm, .ref fo]))]) (fz := fz) (wc := []) hD [] (by decide) rfl
      have hFc := zz_free (pre := [(x, .inr (0, [.int (nI lim), .int (nI rm), .ref dl, .int (nI n), .ref sb, .ref dc, .ref cm, .ref fo]))]) (fz := fz) (wc := []) hD hS hA [] rfl
      have hKc := hK.sub (tys' := [(cB, .byte), (cO, .object "java/lang/Object")]) [0, 1] rfl
      refine va_calli (va_runS (As := [.ref (xs.getD k.toNatClampNeg 0), .int i]) (rest := []) ⟨hx, hb, hml, hown, htb⟩ (k_PS_letterOf l dC dI _ (xs.getD k.toNatClampNeg 0) n9 (rs.getD k.toNatClampNeg []) cB cO i em aK aV fz hv9) (va_cwS 2 htb (g_S (fun _ h => h) m_1101 m_1099 m_1100 m_1) rfl rfl rfl (by decide +kernel) ⟨Nat.le_of_ble_eq_true rfl, Nat.le_of_ble_eq_true rfl⟩) ⟨fun a U g mk q => by obtain ⟨q0, q1, qP, qK, qD, z0⟩ := q; exact ⟨q0, q1, qP, va_K.moved (u := U) (U := U.calling g mk a) (Vm.Alike.refl U.vm) qK, qD, EX.same (U := U) (U' := U.calling g mk a) rfl z0⟩, fun U hU hW => ⟨rfl, by rw [hU], by rw [hU]; exact hPc, va_K.moved hW.alike hKc, hDc.weaken (fun _ _ _ _ => trivial), by rw [hU]; exact EX.warm hW ((hE.kept (fun a h1 h2 => hS.2.1 a h1 h2)).narrow hFc)⟩⟩ rfl rfl hl.1 rfl (lv_room (Nat.le_of_ble_eq_true rfl)) d_PS_shown_29 ⟨Nat.le_of_ble_eq_true rfl, Nat.le_of_ble_eq_true rfl⟩) hS (fun q _ h => hFc q h) hFc (fun r6 u5 t H1 locs ht hvm hw7 hB hz1 hk1 hS => ?_)
      obtain ⟨hP1, hK1, hD1⟩ := hB
      rw [ht] at hP1
      have hK1 := va_K.moved hvm.symm hK1
      have hw7 : r6 = if i < 0 then -1 else (emz i (0, -1) (txt (rs.getD k.toNatClampNeg []))).2 := hw7
      obtain ⟨hP, hD⟩ := zz_join (pre := [(x, .inr (0, [.int (nI lim), .int (nI rm), .ref dl, .int (nI n), .ref sb, .ref dc, .ref cm, .ref fo]))]) (fz := fz) (wc := []) (wr := [(x, .inr (0, [.int (nI lim), .int (nI rm), .ref dl, .int (nI n), .ref sb, .ref dc, .ref cm, .ref fo]))]) (w1 := ([] ++ fz)) hP hD [] [0] rfl rfl (by decide) (by decide) hk1 hFc hP1 hD1
      have hK := (hK.sub (tys' := []) [] rfl).app hK1
      generalize H1 = H at hP hS ⊢
      have hP : va_P (dC, dI) vwCl ([(x, .inr (0, [.int (nI lim), .int (nI rm), .ref dl, .int (nI n), .ref sb, .ref dc, .ref cm, .ref fo]))] ++ fz) H := hP
      have hD : va_D A ([(x, .inr (0, [.int (nI lim), .int (nI rm), .ref dl, .int (nI n), .ref sb, .ref dc, .ref cm, .ref fo]))] ++ fz) := hD
      have hK : va_K (dC, dI) vwCl [(cB, .byte), (cO, .object "java/lang/Object")] s := hK
      refine W.widen (k := 1) (n := 3) (Nat.le_of_ble_eq_true rfl) (Nat.le_of_ble_eq_true rfl) ?_
      have hP9 := zz_pickP (pre := [(x, .inr (0, [.int (nI lim), .int (nI rm), .ref dl, .int (nI n), .ref sb, .ref dc, .ref cm, .ref fo]))]) (fz := fz) (wc := [(x, .inr (0, [.int (nI lim), .int (nI rm), .ref dl, .int (nI n), .ref sb, .ref dc, .ref cm, .ref fo]))]) hP [0] rfl
      have hD9 := zz_pickD (pre := [(x, .inr (0, [.int (nI lim), .int (nI rm), .ref dl, .int (nI n), .ref sb, .ref dc, .ref cm, .ref fo]))]) (fz := fz) (wc := [(x, .inr (0, [.int (nI lim), .int (nI rm), .ref dl, .int (nI n), .ref sb, .ref dc, .ref cm, .ref fo]))]) hD [0] (by decide) rfl
      have hK9 := hK.sub (tys' := [(cB, .byte), (cO, .object "java/lang/Object")]) [0, 1] rfl
      refine W.widen (k := 1) (n := 3) (Nat.le_of_ble_eq_true rfl) (Nat.le_of_ble_eq_true rfl) ?_
      exact W.iret (v := r6) hx hb hr (fun t ht hW => ⟨⟨r6, (), rfl, by rw [if_neg (fun h => h.elim h1 (fun h => absurd h2 (Int32.not_lt.mpr (by rw [← hrs]; exact h))))]; exact hw7, ⟨by rw [ht]; exact hP9, va_K.moved hW.alike hK9, hD9⟩⟩, hS.F ht⟩) hS.2.2 d_PS_shown_32
    · refine lv_iconst (v := (-1)) hx hb d_PS_shown_15 (by decide) ?_
      have hP9 := zz_pickP (pre := [(x, .inr (0, [.int (nI lim), .int (nI rm), .ref dl, .int (nI n), .ref sb, .ref dc, .ref cm, .ref fo]))]) (fz := fz) (wc := [(x, .inr (0, [.int (nI lim), .int (nI rm), .ref dl, .int (nI n), .ref sb, .ref dc, .ref cm, .ref fo]))]) hP [0] rfl
      have hD9 := zz_pickD (pre := [(x, .inr (0, [.int (nI lim), .int (nI rm), .ref dl, .int (nI n), .ref sb, .ref dc, .ref cm, .ref fo]))]) (fz := fz) (wc := [(x, .inr (0, [.int (nI lim), .int (nI rm), .ref dl, .int (nI n), .ref sb, .ref dc, .ref cm, .ref fo]))]) hD [0] (by decide) rfl
      have hK9 := hK.sub (tys' := [(cB, .byte), (cO, .object "java/lang/Object")]) [0, 1] rfl
      refine W.widen (k := 1) (n := 3) (Nat.le_of_ble_eq_true rfl) (Nat.le_of_ble_eq_true rfl) ?_
      exact W.iret (v := (-1)) hx hb hr (fun t ht hW => ⟨⟨(-1), (), rfl, by rw [if_pos (Or.inr (by rw [hrs]; exact Int32.not_lt.mp h2))], ⟨by rw [ht]; exact hP9, va_K.moved hW.alike hK9, hD9⟩⟩, hS.F ht⟩) hS.2.2 d_PS_shown_16
