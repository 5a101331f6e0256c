/-- the pointer at p has these steps -/
def PTz (cB : ClassId) (aK : Nat → Nat) (tl : va_W) : List (List Nat) → Nat → Prop
  | [], p => ∃ (st : Nat) (nu : Int32), (p, Sum.inr (5, [Value.ref st, Value.int nu, Value.null])) ∈ tl
  | s :: ss, p => ∃ (st b : Nat), (p, Sum.inr (5, [Value.ref st, Value.int (oI (wnum s)), Value.ref b])) ∈ tl ∧ TX cB aK tl st s ∧ (∀ c ∈ s, c < 128) ∧ PTz cB aK tl ss b
theorem PTz.mono {cB : ClassId} {aK : Nat → Nat} {tl tl' : va_W} (hs : ∀ q ∈ tl, q ∈ tl') : ∀ {ss : List (List Nat)} {p : Nat}, PTz cB aK tl ss p → PTz cB aK tl' ss p
  | [], _, ⟨st, nu, h⟩ => ⟨st, nu, hs _ h⟩
  | _ :: _, _, ⟨st, b, h1, h2, h3, h4⟩ => ⟨st, b, hs _ h1, h2.mono hs, h3, h4.mono hs⟩
theorem PTz.cell {cB : ClassId} {aK : Nat → Nat} {tl : va_W} {ss : List (List Nat)} {p : Nat} (h : PTz cB aK tl ss p) : Vin 5 tl p := by
  cases ss with
  | nil => obtain ⟨st, nu, h⟩ := h; exact ⟨_, h⟩
  | cons s ss => obtain ⟨st, b, h, _⟩ := h; exact ⟨_, h⟩
theorem oI_elm {rows : List Row} {s : List Nat} (hc : ∀ c ∈ s, c < 128) (h6 : ¬ hdK rows = 6) : (if hdK rows = 5 ∧ ¬ oI (wnum s) < 0 ∧ (oI (wnum s)).toNatClampNeg < (ksR rows).length then oI (wnum s) else -1) = oI (stp rows s) := by
  unfold stp
  rw [if_neg h6]
  by_cases h5 : hdK rows = 5
  · rw [if_pos h5]
    cases hw : wnum s with
    | none =>
      rw [if_neg (fun h => h.2.1 (by decide))]
      rfl
    | some v =>
      have hv := wnum_lt hc hw
      have e : oI (some v) = nI v := rfl
      rw [e, nI_clamp (by omega)]
      by_cases hl : v < (ksR rows).length
      · rw [if_pos ⟨h5, nI_pos (by omega), hl⟩, show elm rows (some v) = some v from if_pos hl]
        rfl
      · rw [if_neg (fun h => hl h.2.2), show elm rows (some v) = none from if_neg hl]
        rfl
  · rw [if_neg (fun h => h5 h.1), if_neg h5]
    rfl
theorem mpl_stp {rows : List Row} {s : List Nat} (h6 : hdK rows = 6) : mpl rows s = stp rows s := by
  unfold mpl stp; rw [if_pos h6, if_pos h6]
theorem pm3 {α : Type} (a b c e : List α) : ((a ++ (b ++ c)) ++ e).Perm (a ++ (b ++ (c ++ e))) := by
  rw [List.append_assoc, List.append_assoc]
theorem pm4 {α : Type} (a b c d e : List α) : ((a ++ (b ++ (c ++ d))) ++ e).Perm (a ++ (b ++ (c ++ (d ++ e)))) := by
  rw [List.append_assoc, List.append_assoc, List.append_assoc]
/-- the first steps are the others -/
def bgn : List (List Nat) → List (List Nat) → Bool
  | _, [] => true
  | [], _ :: _ => false
  | a :: as, b :: bs => decide (a = b) && bgn as bs
set_option maxHeartbeats 1000000 in
set_option maxRecDepth 100000 in
/-- hasNoStep -/
theorem k_PT_hasNoStep (l : Launch) (dC : Nat → ClassId) (dI : Nat → Nat → Nat) (sz : Nat) (p1 : Nat) (ss : List (List Nat)) (cB : ClassId) (em : Nat) (aK : Nat → Nat) (aV : Nat → Nat) (fz : va_W) (hpt : PTz cB aK fz ss p1) : Met l y_PT_hasNoStep ws_PT_hasNoStep ({ frames := 0, cells := 0, slots := 0, locals := 0 }) (va_Pc [.ref p1] (fun U => U.heap.size = sz ∧ va_P (dC, dI) vwCl ([] ++ fz) U.heap ∧ va_K (dC, dI) vwCl [] U ∧ va_D (fun _ => True) ([] ++ fz) ∧ EX em aK aV (va_A ([] ++ fz) sz) U U.heap)) (va_Qi (fun (r : Int32) (u : Unit) => r = bI (decide (ss.length = 0))) (fun u t => va_P (dC, dI) vwCl ([] ++ fz) t.heap ∧ va_K (dC, dI) vwCl [] t ∧ va_D (va_A ([] ++ fz) sz) ([] ++ fz)) (va_A ([] ++ fz) sz)) 0 0 (va_A ([] ++ fz) sz) := by
  refine Met.ofW (cc := c_PT_hasNoStep) (maxL := 1) (ret := (some .boolean)) (by decide) rfl ?_
  intro p e s m args below meth c s₁ B hml hv
  obtain ⟨rfl, hsz, hP, hK, hD0, hE⟩ := hv
  have hx := B.exec
  have hb := B.bytes
  have hr := B.returns
  have hts := atoms_spec (ws := ws_PT_hasNoStep) B.pre
  have htb := fun w (h : w ∈ TBL) => hts w (List.mem_cons_of_mem _ h)
  have hown : s.vm.findClass R_PT = some m.cls := findClass_of_methodNamed B.named
  have hlocks := B.notSynchronized
  subst hsz
  have hD := hD0.self (sz := s.heap.size)
  generalize hAe : va_A ([] ++ fz) s.heap.size = A at hD hE ⊢
  have hA : ∀ q : Nat, s.heap.size ≤ q → A q := fun q h => by rw [← hAe]; exact Or.inr h
  have hS : va_S A s.heap s.heap [] := va_S.rf
  have hP : va_P (dC, dI) vwCl ([] ++ fz) s.heap := hP
  have hl := lv_entry ([.ref p1]) (n := 1) (Nat.le_of_ble_eq_true rfl)
  rw [lg_entry_eq]
  generalize (lg_sl ([.ref p1]) ++ List.replicate (1 - (lg_sl ([.ref p1])).length) Slot.unset).toArray = ls at hl ⊢
  have hl : lv_has ls 1 [(0, .ref p1)] := hl
  rcases ss with _ | ⟨s1, ss1⟩
  · obtain ⟨st, nu, hc⟩ := hpt
    refine lv_aload_n hx hb d_PT_hasNoStep_0 rfl (lv_at hl 0 rfl) ?_
    obtain ⟨qz1, hz1⟩ := List.getElem?_of_mem (List.mem_append_right [] hc)
    refine va_get (D := (dC, dI)) (ci := 5) (v := .null) (C := R_PT) (T := T_PT) (N := 3) hx hb htb in_PT hown hK hP qz1 hz1 rfl 2 (by decide) (htb _ m_630) (fun _ h9 => h9) rfl d_PT_hasNoStep_1 ?_
    refine lv_ifnonnullN hx hb d_PT_hasNoStep_4 ?_
    refine lv_iconst (v := 1) hx hb d_PT_hasNoStep_7 (by decide) ?_
    refine lv_goto (tgt := 12) hx hb d_PT_hasNoStep_8 rfl ?_
    have hP9 := zz_pickP (pre := []) (fz := fz) (wc := []) hP [] rfl
    have hD9 := zz_pickD (pre := []) (fz := fz) (wc := []) hD [] (by decide) rfl
    have hK9 := hK.sub (tys' := []) [] rfl
    refine W.widen (k := 0) (n := 0) (Nat.le_of_ble_eq_true rfl) (Nat.le_of_ble_eq_true rfl) ?_
    exact W.zret (v := 1) hx hb hr (by decide) (fun t ht hW => ⟨⟨1, (), rfl, rfl, ⟨by rw [ht]; exact hP9, va_K.moved hW.alike hK9, hD9⟩⟩, hS.F ht⟩) hS.2.2 d_PT_hasNoStep_12
  · obtain ⟨st, b, hc, htx, hcc, hrest⟩ := hpt
    refine lv_aload_n hx hb d_PT_hasNoStep_0 rfl (lv_at hl 0 rfl) ?_
    obtain ⟨qz1, hz1⟩ := List.getElem?_of_mem (List.mem_append_right [] hc)
    refine va_get (D := (dC, dI)) (ci := 5) (v := .ref b) (C := R_PT) (T := T_PT) (N := 3) hx hb htb in_PT hown hK hP qz1 hz1 rfl 2 (by decide) (htb _ m_630) (fun _ h9 => h9) rfl d_PT_hasNoStep_1 ?_
    refine lv_ifnonnull (tgt := 11) hx hb d_PT_hasNoStep_4 rfl ?_
    refine lv_iconst (v := 0) hx hb d_PT_hasNoStep_11 (by decide) ?_
    have hP9 := zz_pickP (pre := []) (fz := fz) (wc := []) hP [] rfl
    have hD9 := zz_pickD (pre := []) (fz := fz) (wc := []) hD [] (by decide) rfl
    have hK9 := hK.sub (tys' := []) [] rfl
    refine W.widen (k := 0) (n := 0) (Nat.le_of_ble_eq_true rfl) (Nat.le_of_ble_eq_true rfl) ?_
    exact W.zret (v := 0) hx hb hr (by decide) (fun t ht hW => ⟨⟨0, (), rfl, rfl, ⟨by rw [ht]; exact hP9, va_K.moved hW.alike hK9, hD9⟩⟩, hS.F ht⟩) hS.2.2 d_PT_hasNoStep_12
set_option maxHeartbeats 1000000 in
set_option maxRecDepth 100000 in
/-- hasOneStep -/
theorem k_PT_hasOneStep (l : Launch) (dC : Nat → ClassId) (dI : Nat → Nat → Nat) (sz : Nat) (p1 : Nat) (ss : List (List Nat)) (cB : ClassId) (em : Nat) (aK : Nat → Nat) (aV : Nat → Nat) (fz : va_W) (hpt : PTz cB aK fz ss p1) : Met l y_PT_hasOneStep ws_PT_hasOneStep ({ frames := 0, cells := 0, slots := 0, locals := 0 }) (va_Pc [.ref p1] (fun U => U.heap.size = sz ∧ va_P (dC, dI) vwCl ([] ++ fz) U.heap ∧ va_K (dC, dI) vwCl [] U ∧ va_D (fun _ => True) ([] ++ fz) ∧ EX em aK aV (va_A ([] ++ fz) sz) U U.heap)) (va_Qi (fun (r : Int32) (u : Unit) => r = bI (decide (ss.length = 1))) (fun u t => va_P (dC, dI) vwCl ([] ++ fz) t.heap ∧ va_K (dC, dI) vwCl [] t ∧ va_D (va_A ([] ++ fz) sz) ([] ++ fz)) (va_A ([] ++ fz) sz)) 0 0 (va_A ([] ++ fz) sz) := by
  refine Met.ofW (cc := c_PT_hasOneStep) (maxL := 1) (ret := (some .boolean)) (by decide) rfl ?_
  intro p e s m args below meth c s₁ B hml hv
  obtain ⟨rfl, hsz, hP, hK, hD0, hE⟩ := hv
  have hx := B.exec
  have hb := B.bytes
  have hr := B.returns
  have hts := atoms_spec (ws := ws_PT_hasOneStep) B.pre
  have htb := fun w (h : w ∈ TBL) => hts w (List.mem_cons_of_mem _ h)
  have hown : s.vm.findClass R_PT = some m.cls := findClass_of_methodNamed B.named
  have hlocks := B.notSynchronized
  subst hsz
  have hD := hD0.self (sz := s.heap.size)
  generalize hAe : va_A ([] ++ fz) s.heap.size = A at hD hE ⊢
  have hA : ∀ q : Nat, s.heap.size ≤ q → A q := fun q h => by rw [← hAe]; exact Or.inr h
  have hS : va_S A s.heap s.heap [] := va_S.rf
  have hP : va_P (dC, dI) vwCl ([] ++ fz) s.heap := hP
  have hl := lv_entry ([.ref p1]) (n := 1) (Nat.le_of_ble_eq_true rfl)
  rw [lg_entry_eq]
  generalize (lg_sl ([.ref p1]) ++ List.replicate (1 - (lg_sl ([.ref p1])).length) Slot.unset).toArray = ls at hl ⊢
  have hl : lv_has ls 1 [(0, .ref p1)] := hl
  rcases ss with _ | ⟨s1, ss1⟩
  · obtain ⟨st, nu, hc⟩ := hpt
    refine lv_aload_n hx hb d_PT_hasOneStep_0 rfl (lv_at hl 0 rfl) ?_
    obtain ⟨qz1, hz1⟩ := List.getElem?_of_mem (List.mem_append_right [] hc)
    refine va_get (D := (dC, dI)) (ci := 5) (v := .null) (C := R_PT) (T := T_PT) (N := 3) hx hb htb in_PT hown hK hP qz1 hz1 rfl 2 (by decide) (htb _ m_630) (fun _ h9 => h9) rfl d_PT_hasOneStep_1 ?_
    refine lv_ifnullN (tgt := 21) hx hb d_PT_hasOneStep_4 rfl ?_
    refine lv_iconst (v := 0) hx hb d_PT_hasOneStep_21 (by decide) ?_
    have hP9 := zz_pickP (pre := []) (fz := fz) (wc := []) hP [] rfl
    have hD9 := zz_pickD (pre := []) (fz := fz) (wc := []) hD [] (by decide) rfl
    have hK9 := hK.sub (tys' := []) [] rfl
    refine W.widen (k := 0) (n := 0) (Nat.le_of_ble_eq_true rfl) (Nat.le_of_ble_eq_true rfl) ?_
    exact W.zret (v := 0) hx hb hr (by decide) (fun t ht hW => ⟨⟨0, (), rfl, rfl, ⟨by rw [ht]; exact hP9, va_K.moved hW.alike hK9, hD9⟩⟩, hS.F ht⟩) hS.2.2 d_PT_hasOneStep_22
  · obtain ⟨st, b, hc, htx, hcc, hrest⟩ := hpt
    refine lv_aload_n hx hb d_PT_hasOneStep_0 rfl (lv_at hl 0 rfl) ?_
    obtain ⟨qz1, hz1⟩ := List.getElem?_of_mem (List.mem_append_right [] hc)
    refine va_get (D := (dC, dI)) (ci := 5) (v := .ref b) (C := R_PT) (T := T_PT) (N := 3) hx hb htb in_PT hown hK hP qz1 hz1 rfl 2 (by decide) (htb _ m_630) (fun _ h9 => h9) rfl d_PT_hasOneStep_1 ?_
    refine lv_ifnull hx hb d_PT_hasOneStep_4 ?_
    refine lv_aload_n hx hb d_PT_hasOneStep_7 rfl (lv_at hl 0 rfl) ?_
    obtain ⟨qz2, hz2⟩ := List.getElem?_of_mem (List.mem_append_right [] hc)
    refine va_get (D := (dC, dI)) (ci := 5) (v := .ref b) (C := R_PT) (T := T_PT) (N := 3) hx hb htb in_PT hown hK hP qz2 hz2 rfl 2 (by decide) (htb _ m_630) (fun _ h9 => h9) rfl d_PT_hasOneStep_8 ?_
    rcases ss1 with _ | ⟨s2, ss2⟩
    · obtain ⟨st2, nu2, hc2⟩ := hrest
      obtain ⟨qz3, hz3⟩ := List.getElem?_of_mem (List.mem_append_right [] hc2)
      refine va_get (D := (dC, dI)) (ci := 5) (v := .null) (C := R_PT) (T := T_PT) (N := 3) hx hb htb in_PT hown hK hP qz3 hz3 rfl 2 (by decide) (htb _ m_630) (fun _ h9 => h9) rfl d_PT_hasOneStep_11 ?_
      refine lv_ifnonnullN hx hb d_PT_hasOneStep_14 ?_
      refine lv_iconst (v := 1) hx hb d_PT_hasOneStep_17 (by decide) ?_
      refine lv_goto (tgt := 22) hx hb d_PT_hasOneStep_18 rfl ?_
      have hP9 := zz_pickP (pre := []) (fz := fz) (wc := []) hP [] rfl
      have hD9 := zz_pickD (pre := []) (fz := fz) (wc := []) hD [] (by decide) rfl
      have hK9 := hK.sub (tys' := []) [] rfl
      refine W.widen (k := 0) (n := 0) (Nat.le_of_ble_eq_true rfl) (Nat.le_of_ble_eq_true rfl) ?_
      exact W.zret (v := 1) hx hb hr (by decide) (fun t ht hW => ⟨⟨1, (), rfl, rfl, ⟨by rw [ht]; exact hP9, va_K.moved hW.alike hK9, hD9⟩⟩, hS.F ht⟩) hS.2.2 d_PT_hasOneStep_22
    · obtain ⟨st2, b2, hc2, htx2, hcc2, hrest2⟩ := hrest
      obtain ⟨qz3, hz3⟩ := List.getElem?_of_mem (List.mem_append_right [] hc2)
      refine va_get (D := (dC, dI)) (ci := 5) (v := .ref b2) (C := R_PT) (T := T_PT) (N := 3) hx hb htb in_PT hown hK hP qz3 hz3 rfl 2 (by decide) (htb _ m_630) (fun _ h9 => h9) rfl d_PT_hasOneStep_11 ?_
      refine lv_ifnonnull (tgt := 21) hx hb d_PT_hasOneStep_14 rfl ?_
      refine lv_iconst (v := 0) hx hb d_PT_hasOneStep_21 (by decide) ?_
      have hP9 := zz_pickP (pre := []) (fz := fz) (wc := []) hP [] rfl
      have hD9 := zz_pickD (pre := []) (fz := fz) (wc := []) hD [] (by decide) rfl
      have hK9 := hK.sub (tys' := []) [] rfl
      refine W.widen (k := 0) (n := 0) (Nat.le_of_ble_eq_true rfl) (Nat.le_of_ble_eq_true rfl) ?_
      exact W.zret (v := 0) hx hb hr (by decide) (fun t ht hW => ⟨⟨0, (), rfl, by rw [decide_eq_false (by simp)]; rfl, ⟨by rw [ht]; exact hP9, va_K.moved hW.alike hK9, hD9⟩⟩, hS.F ht⟩) hS.2.2 d_PT_hasOneStep_22
set_option maxHeartbeats 1000000 in
set_option maxRecDepth 100000 in
/-- firstPlaceIn(value) -/
theorem k_PT_firstPlaceIn (l : Launch) (dC : Nat → ClassId) (dI : Nat → Nat → Nat) (sz : Nat) (a : Nat) (d : Nat) (nn : List Nat) (rows : List Row) (p1 : Nat) (s1 : List Nat) (ss : List (List Nat)) (cB : ClassId) (cO : ClassId) (em : Nat) (aK : Nat → Nat) (aV : Nat → Nat) (fz : va_W) (hv : VT cB cO em aK (d + 1) fz a nn rows) (hpt : PTz cB aK fz (s1 :: ss) p1) : Met l y_PT_firstPlaceIn ws_PT_firstPlaceIn ({ frames := 4, cells := 0, slots := 0, locals := 86 }) (va_Pc [.ref p1, .ref a] (fun U => U.heap.size = sz ∧ va_P (dC, dI) vwCl ([] ++ fz) U.heap ∧ va_K (dC, dI) vwCl [(cB, .byte), (cO, .object "java/lang/Object")] U ∧ va_D (fun _ => True) ([] ++ fz) ∧ EX em aK aV (va_A ([] ++ fz) sz) U U.heap)) (va_Qi (fun (r : Int32) (u : Unit) => r = oI (stp rows s1)) (fun u t => va_P (dC, dI) vwCl ([] ++ fz) t.heap ∧ va_K (dC, dI) vwCl [(cB, .byte), (cO, .object "java/lang/Object")] t ∧ va_D (va_A ([] ++ fz) sz) ([] ++ fz)) (va_A ([] ++ fz) sz)) 0 0 (va_A ([] ++ fz) sz) := by
  refine Met.ofW (cc := c_PT_firstPlaceIn) (maxL := 2) (ret := (some .int)) (by decide) rfl ?_
  intro p e s m args below meth c s₁ B hml hv
  obtain ⟨rfl, hsz, hP, hK, hD0, hE⟩ := hv
  have hx := B.exec
  have hb := B.bytes
  have hr := B.returns
  have hts := atoms_spec (ws := ws_PT_firstPlaceIn) B.pre
  have htb := fun w (h : w ∈ TBL) => hts w (List.mem_cons_of_mem _ h)
  have hown : s.vm.findClass R_PT = some m.cls := findClass_of_methodNamed B.named
  have hlocks := B.notSynchronized
  subst hsz
  have hD := hD0.self (sz := s.heap.size)
  generalize hAe : va_A ([] ++ fz) s.heap.size = A at hD hE ⊢
  have hA : ∀ q : Nat, s.heap.size ≤ q → A q := fun q h => by rw [← hAe]; exact Or.inr h
  have hS : va_S A s.heap s.heap [] := va_S.rf
  have hP : va_P (dC, dI) vwCl ([] ++ fz) s.heap := hP
  have hl := lv_entry ([.ref p1, .ref a]) (n := 2) (Nat.le_of_ble_eq_true rfl)
  rw [lg_entry_eq]
  generalize (lg_sl ([.ref p1, .ref a]) ++ List.replicate (2 - (lg_sl ([.ref p1, .ref a])).length) Slot.unset).toArray = ls at hl ⊢
  have hl : lv_has ls 2 [(0, .ref p1), (1, .ref a)] := hl
  obtain ⟨st, b, hpc, hst, hcc, hrest⟩ := (id hpt : PTz cB aK fz (s1 :: ss) p1)
  obtain ⟨kd, tx, nu, nm, pa, dp, cn, tt, kk, num, rt, xs, ns, hc, htx, hnm, hal, hhd, hnl, hrl, hk5, hvl, hhk, hns, hdp, hcn, hrw, h160⟩ := (id hv : VT cB cO em aK (d + 1) fz a nn rows).opn
  refine lv_aload_n hx hb d_PT_firstPlaceIn_0 rfl (lv_at hl 1 rfl) ?_
  obtain ⟨qz1, hz1⟩ := List.getElem?_of_mem (List.mem_append_right [] hc)
  refine va_get (D := (dC, dI)) (ci := 3) (v := .int kd) (C := R_VA) (T := T_VA) (N := 7) hx hb htb in_VA hown hK hP qz1 hz1 rfl 0 (by decide) (htb _ m_381) (fun _ h9 => h9) rfl d_PT_firstPlaceIn_1 ?_
  refine lv_iconst (v := 4) hx hb d_PT_firstPlaceIn_4 (by decide) ?_
  refine lv_icmp_ne (tgt := 19) hx hb d_PT_firstPlaceIn_5 rfl (fun h1 => ?_) (fun h1 => ?_)
  · have h1 : ¬ kk = 6 := fun h => h1 ((hhd.kind.1).mpr h)
    refine lv_aload_n hx hb d_PT_firstPlaceIn_19 rfl (lv_at hl 1 rfl) ?_
    refine lv_aload_n hx hb d_PT_firstPlaceIn_20 rfl (lv_at hl 0 rfl) ?_
    obtain ⟨qz2, hz2⟩ := List.getElem?_of_mem (List.mem_append_right [] hpc)
    refine va_get (D := (dC, dI)) (ci := 5) (v := .int (oI (wnum s1))) (C := R_PT) (T := T_PT) (N := 3) hx hb htb in_PT hown hK hP qz2 hz2 rfl 1 (by decide) (htb _ m_628) (fun _ h9 => h9) rfl d_PT_firstPlaceIn_21 ?_
    have hPc := zz_pickP (pre := []) (fz := fz) (wc := []) hP [] rfl
    have hDc := zz_pickD (pre := []) (fz := fz) (wc := []) hD [] (by decide) rfl
    have hFc := zz_free (pre := []) (fz := fz) (wc := []) hD hS hA [] rfl
    have hKc := hK.sub (tys' := [(cB, .byte), (cO, .object "java/lang/Object")]) [0, 1] rfl
    refine va_calli (va_runV (As := [.int (oI (wnum s1))]) (rest := []) ⟨hx, hb, hml, hown, htb⟩ (k_VA_placeOfElement l dC dI _ a d nn rows (oI (wnum s1)) cB cO em aK aV fz hv) (cwV 1 htb (g_V (fun _ h => h) m_796 m_793 m_794 m_795 m_18) rfl rfl rfl (by decide +kernel) ⟨Nat.le_of_ble_eq_true rfl, Nat.le_of_ble_eq_true rfl⟩) ⟨fun a U g mk q => by obtain ⟨q0, q1, qP, qK, qD, z0⟩ := q; exact ⟨q0, q1, qP, va_K.moved (u := U) (U := U.calling g mk a) (Vm.Alike.refl U.vm) qK, qD, EX.same (U := U) (U' := U.calling g mk a) rfl z0⟩, zz_recv hK hP (ci := 3) rfl (List.mem_append_right _ hc), fun U hU hW => ⟨rfl, by rw [hU], by rw [hU]; exact hPc, va_K.moved hW.alike hKc, hDc.weaken (fun _ _ _ _ => trivial), by rw [hU]; exact EX.warm hW ((hE.kept (fun a h1 h2 => hS.2.1 a h1 h2)).narrow hFc)⟩⟩ rfl rfl hl.1 rfl (lv_room (Nat.le_of_ble_eq_true rfl)) d_PT_firstPlaceIn_24 ⟨Nat.le_of_ble_eq_true rfl, Nat.le_of_ble_eq_true rfl⟩) hS (fun q _ h => hFc q h) hFc (fun r4 u3 t H1 locs ht hvm hw5 hB hz1 hk1 hS => ?_)
    obtain ⟨hP1, hK1, hD1⟩ := hB
    rw [ht] at hP1
    have hK1 := va_K.moved hvm.symm hK1
    have hw5 : r4 = if hdK rows = 5 ∧ ¬ (oI (wnum s1)) < 0 ∧ (oI (wnum s1)).toNatClampNeg < (ksR rows).length then (oI (wnum s1)) else -1 := hw5
    obtain ⟨hP, hD⟩ := zz_join (pre := []) (fz := fz) (wc := []) (wr := []) (w1 := ([] ++ fz)) hP hD [] [] rfl rfl (by decide) (by decide) hk1 hFc hP1 hD1
    have hK := (hK.sub (tys' := []) [] rfl).app hK1
    generalize H1 = H at hP hS ⊢
    have hP : va_P (dC, dI) vwCl ([] ++ fz) H := hP
    have hD : va_D A ([] ++ fz) := hD
    have hK : va_K (dC, dI) vwCl [(cB, .byte), (cO, .object "java/lang/Object")] s := hK
    have hP9 := zz_pickP (pre := []) (fz := fz) (wc := []) hP [] rfl
    have hD9 := zz_pickD (pre := []) (fz := fz) (wc := []) hD [] (by decide) rfl
    have hK9 := hK.sub (tys' := [(cB, .byte), (cO, .object "java/lang/Object")]) [0, 1] rfl
    refine W.widen (k := 0) (n := 0) (Nat.le_of_ble_eq_true rfl) (Nat.le_of_ble_eq_true rfl) ?_
    exact W.iret (v := r4) hx hb hr (fun t ht hW => ⟨⟨r4, (), rfl, by rw [hw5]; exact oI_elm hcc (fun h => h1 (hhk.symm.trans h)), ⟨by rw [ht]; exact hP9, va_K.moved hW.alike hK9, hD9⟩⟩, hS.F ht⟩) hS.2.2 d_PT_firstPlaceIn_27
  · have h1 : kk = 6 := (hhd.kind.1).mp h1
    refine lv_aload_n hx hb d_PT_firstPlaceIn_8 rfl (lv_at hl 1 rfl) ?_
    refine lv_aload_n hx hb d_PT_firstPlaceIn_9 rfl (lv_at hl 0 rfl) ?_
    obtain ⟨qz2, hz2⟩ := List.getElem?_of_mem (List.mem_append_right [] hpc)
    refine va_get (D := (dC, dI)) (ci := 5) (v := .ref st) (C := R_PT) (T := T_PT) (N := 3) hx hb htb in_PT hown hK hP qz2 hz2 rfl 0 (by decide) (htb _ m_626) (fun _ h9 => h9) rfl d_PT_firstPlaceIn_10 ?_
    have hPc := zz_pickP (pre := []) (fz := fz) (wc := []) hP [] rfl
    have hDc := zz_pickD (pre := []) (fz := fz) (wc := []) hD [] (by decide) rfl
    have hFc := zz_free (pre := []) (fz := fz) (wc := []) hD hS hA [] rfl
    have hKc := hK.sub (tys' := [(cB, .byte), (cO, .object "java/lang/Object")]) [0, 1] rfl
    refine va_calli (va_runV (As := [.ref st]) (rest := []) ⟨hx, hb, hml, hown, htb⟩ (k_VA_placeOfMember l dC dI _ a d nn rows st s1 cB cO em aK aV fz hv hst) (cwV 1 htb (g_V (fun _ h => h) m_597 m_792 m_595 m_596 m_18) rfl rfl rfl (by decide +kernel) ⟨Nat.le_of_ble_eq_true rfl, Nat.le_of_ble_eq_true rfl⟩) ⟨fun a U g mk q => by obtain ⟨q0, q1, qP, qK, qD, z0⟩ := q; exact ⟨q0, q1, qP, va_K.moved (u := U) (U := U.calling g mk a) (Vm.Alike.refl U.vm) qK, qD, EX.same (U := U) (U' := U.calling g mk a) rfl z0⟩, zz_recv hK hP (ci := 3) rfl (List.mem_append_right _ hc), fun U hU hW => ⟨rfl, by rw [hU], by rw [hU]; exact hPc, va_K.moved hW.alike hKc, hDc.weaken (fun _ _ _ _ => trivial), by rw [hU]; exact EX.warm hW ((hE.kept (fun a h1 h2 => hS.2.1 a h1 h2)).narrow hFc)⟩⟩ rfl rfl hl.1 rfl (lv_room (Nat.le_of_ble_eq_true rfl)) d_PT_firstPlaceIn_13 ⟨Nat.le_of_ble_eq_true rfl, Nat.le_of_ble_eq_true rfl⟩) hS (fun q _ h => hFc q h) hFc (fun r4 u3 t H1 locs ht hvm hw5 hB hz1 hk1 hS => ?_)
    obtain ⟨hP1, hK1, hD1⟩ := hB
    rw [ht] at hP1
    have hK1 := va_K.moved hvm.symm hK1
    have hw5 : r4 = oI (mpl rows s1) := hw5
    obtain ⟨hP, hD⟩ := zz_join (pre := []) (fz := fz) (wc := []) (wr := []) (w1 := ([] ++ fz)) hP hD [] [] rfl rfl (by decide) (by decide) hk1 hFc hP1 hD1
    have hK := (hK.sub (tys' := []) [] rfl).app hK1
    generalize H1 = H at hP hS ⊢
    have hP : va_P (dC, dI) vwCl ([] ++ fz) H := hP
    have hD : va_D A ([] ++ fz) := hD
    have hK : va_K (dC, dI) vwCl [(cB, .byte), (cO, .object "java/lang/Object")] s := hK
    refine lv_goto (tgt := 27) hx hb d_PT_firstPlaceIn_16 rfl ?_
    have hP9 := zz_pickP (pre := []) (fz := fz) (wc := []) hP [] rfl
    have hD9 := zz_pickD (pre := []) (fz := fz) (wc := []) hD [] (by decide) rfl
    have hK9 := hK.sub (tys' := [(cB, .byte), (cO, .object "java/lang/Object")]) [0, 1] rfl
    refine W.widen (k := 0) (n := 0) (Nat.le_of_ble_eq_true rfl) (Nat.le_of_ble_eq_true rfl) ?_
    exact W.iret (v := r4) hx hb hr (fun t ht hW => ⟨⟨r4, (), rfl, by rw [hw5, mpl_stp (hhk.trans h1)], ⟨by rw [ht]; exact hP9, va_K.moved hW.alike hK9, hD9⟩⟩, hS.F ht⟩) hS.2.2 d_PT_firstPlaceIn_27
set_option maxHeartbeats 1000000 in
set_option maxRecDepth 100000 in
/-- target(value) -/
theorem k_PT_target (l : Launch) (dC : Nat → ClassId) (dI : Nat → Nat → Nat) (sz : Nat) (a : Nat) (d : Nat) (nn : List Nat) (rows : List Row) (p1 : Nat) (ss : List (List Nat)) (cB : ClassId) (cO : ClassId) (em : Nat) (aK : Nat → Nat) (aV : Nat → Nat) (fz : va_W) (hv : VT cB cO em aK d fz a nn rows) (hpt : PTz cB aK fz ss p1) : Met l y_PT_target ws_PT_target ({ frames := 5, cells := 0, slots := 0, locals := 107 }) (va_Pc [.ref p1, .ref a] (fun U => U.heap.size = sz ∧ va_P (dC, dI) vwCl ([] ++ fz) U.heap ∧ va_K (dC, dI) vwCl [(cB, .byte), (cO, .object "java/lang/Object")] U ∧ va_D (fun _ => True) ([] ++ fz) ∧ EX em aK aV (va_A ([] ++ fz) sz) U U.heap)) (va_Qq (fun (r : Option Nat) (u : Unit) => (r = none ∧ trg ss rows = none) ∨ ∃ y8 n8 w8 d8, r = some y8 ∧ trg ss rows = some w8 ∧ d8 ≤ d ∧ VT cB cO em aK d8 fz y8 n8 w8) (fun u t => va_P (dC, dI) vwCl ([] ++ fz) t.heap ∧ va_K (dC, dI) vwCl [(cB, .byte), (cO, .object "java/lang/Object")] t ∧ va_D (va_A ([] ++ fz) sz) ([] ++ fz)) (va_A ([] ++ fz) sz)) 0 0 (va_A ([] ++ fz) sz) := by
  refine Met.ofW (cc := c_PT_target) (maxL := 5) (ret := (some (.object "PatchStore$Value"))) (by decide) rfl ?_
  intro p e s m args below meth c s₁ B hml hv
  obtain ⟨hargs, hsz, hP, hK, hD0, hE⟩ := hv
  rw [show entryFrame m args 5 = entryFrame m ([.ref p1, .ref a]).toArray 5 by rw [hargs]]
  have hx := B.exec
  have hb := B.bytes
  have hr := B.returns
  have hts := atoms_spec (ws := ws_PT_target) B.pre
  have htb := fun w (h : w ∈ TBL) => hts w (List.mem_cons_of_mem _ h)
  have hown : s.vm.findClass R_PT = some m.cls := findClass_of_methodNamed B.named
  have hlocks := B.notSynchronized
  subst hsz
  have hD := hD0.self (sz := s.heap.size)
  generalize hAe : va_A ([] ++ fz) s.heap.size = A at hD hE ⊢
  have hA : ∀ q : Nat, s.heap.size ≤ q → A q := fun q h => by rw [← hAe]; exact Or.inr h
  have hS : va_S A s.heap s.heap [] := va_S.rf
  have hP : va_P (dC, dI) vwCl ([] ++ fz) s.heap := hP
  have hl := lv_entry ([.ref p1, .ref a]) (n := 5) (Nat.le_of_ble_eq_true rfl)
  rw [lg_entry_eq]
  generalize (lg_sl ([.ref p1, .ref a]) ++ List.replicate (5 - (lg_sl ([.ref p1, .ref a])).length) Slot.unset).toArray = ls at hl ⊢
  have hl : lv_has ls 5 [(0, .ref p1), (1, .ref a)] := hl
  refine zz_nQ (fun Q hQ => ?_)
  refine lv_aload_n hx hb d_PT_target_0 rfl (lv_at hl 1 rfl) ?_
  refine lv_astore_n hx hb d_PT_target_1 rfl hl (by decide) rfl (fun ls hl => ?_)
  have hl : lv_has ls 5 [(2, .ref a), (0, .ref p1), (1, .ref a)] := hl
  refine lv_aload_n hx hb d_PT_target_2 rfl (lv_at hl 1 rfl) ?_
  refine lv_astore_n hx hb d_PT_target_3 rfl hl (by decide) rfl (fun ls hl => ?_)
  have hl : lv_has ls 5 [(3, .ref p1), (2, .ref a), (0, .ref p1), (1, .ref a)] := hl
  have hloop : ∀ (k9 : Nat) (p2 : Nat) (ss1 : List (List Nat)) (a1 : Nat) (nn1 : List Nat) (w1 : List Row) (d1 : Nat) (H : Heap) (locs : List Loc) (ls : Array Slot), ss1.length = k9 → (PTz cB aK fz ss1 p2) → (VT cB cO em aK d1 fz a1 nn1 w1) → (trg ss1 w1 = trg ss rows) → (d1 ≤ d) → lv_has ls 5 [(2, .ref a1), (3, .ref p2)] → va_P (dC, dI) vwCl ([] ++ fz) H → va_D A ([] ++ fz) → va_S A s.heap H locs → W p l e (headSpec ws_PT_target ({ frames := 5, cells := 0, slots := 0, locals := 107 })).room s m args below meth c H locs 0 0 Q (F0 m 4 ls []) := by
    intro k9
    induction k9 using Nat.strongRecOn with
    | ind k9 ih =>
      intro p2 ss1 a1 nn1 w1 d1 H locs ls hk9 hp1 hv1 ht1 hd1 hl hP hD hS
      rcases ss1 with _ | ⟨s1, ss2⟩
      · obtain ⟨st, nu, hpc⟩ := hp1
        refine lv_aload_n hx hb d_PT_target_4 rfl (lv_at hl 1 rfl) ?_
        obtain ⟨qz1, hz1⟩ := List.getElem?_of_mem (List.mem_append_right [] hpc)
        refine va_get (D := (dC, dI)) (ci := 5) (v := .null) (C := R_PT) (T := T_PT) (N := 3) hx hb htb in_PT hown hK hP qz1 hz1 rfl 2 (by decide) (htb _ m_630) (fun _ h9 => h9) rfl d_PT_target_5 ?_
        refine lv_ifnullN (tgt := 46) hx hb d_PT_target_8 rfl ?_
        refine lv_aload_n hx hb d_PT_target_46 rfl (lv_at hl 0 rfl) ?_
        have hP9 := zz_pickP (pre := []) (fz := fz) (wc := []) hP [] rfl
        have hD9 := zz_pickD (pre := []) (fz := fz) (wc := []) hD [] (by decide) rfl
        have hK9 := hK.sub (tys' := [(cB, .byte), (cO, .object "java/lang/Object")]) [0, 1] rfl
        rw [hQ]
        refine W.widen (k := 0) (n := 0) (Nat.le_of_ble_eq_true rfl) (Nat.le_of_ble_eq_true rfl) ?_
        exact W.aret (v := .ref a1) hx hb hr (Or.inl ⟨_, rfl⟩) (Or.inr ⟨_, rfl⟩) (fun t ht hW => ⟨⟨(some a1), (), rfl, Or.inr ⟨_, _, _, _, rfl, by rw [← ht1]; rfl, hd1, hv1⟩, ⟨by rw [ht]; exact hP9, va_K.moved hW.alike hK9, hD9⟩⟩, hS.F ht⟩) hS.2.2 d_PT_target_47
      · obtain ⟨st, b, hpc, hst, hcc, hrest⟩ := (id hp1 : PTz cB aK fz (s1 :: ss2) p2)
        obtain ⟨d2, rfl⟩ := hv1.succ
        obtain ⟨kd, tx, nu, nm, pa, dp, cn, tt, kk, num, rt, xs, ns, hc, htx, hnm, hal, hhd, hnl, hrl, hk5, hvl, hhk, hns, hdp, hcn, hrw, h160⟩ := (id hv1 : VT cB cO em aK (d2 + 1) fz a1 nn1 w1).opn
        refine lv_aload_n hx hb d_PT_target_4 rfl (lv_at hl 1 rfl) ?_
        obtain ⟨qz1, hz1⟩ := List.getElem?_of_mem (List.mem_append_right [] hpc)
        refine va_get (D := (dC, dI)) (ci := 5) (v := .ref b) (C := R_PT) (T := T_PT) (N := 3) hx hb htb in_PT hown hK hP qz1 hz1 rfl 2 (by decide) (htb _ m_630) (fun _ h9 => h9) rfl d_PT_target_5 ?_
        refine lv_ifnull hx hb d_PT_target_8 ?_
        refine lv_aload_n hx hb d_PT_target_11 rfl (lv_at hl 1 rfl) ?_
        refine lv_aload_n hx hb d_PT_target_12 rfl (lv_at hl 0 rfl) ?_
        have hPc := zz_pickP (pre := []) (fz := fz) (wc := []) hP [] rfl
        have hDc := zz_pickD (pre := []) (fz := fz) (wc := []) hD [] (by decide) rfl
        have hFc := zz_free (pre := []) (fz := fz) (wc := []) hD hS hA [] rfl
        have hKc := hK.sub (tys' := [(cB, .byte), (cO, .object "java/lang/Object")]) [0, 1] rfl
        refine va_calli (va_runV (As := [.ref a1]) (rest := []) ⟨hx, hb, hml, hown, htb⟩ (k_PT_firstPlaceIn l dC dI _ a1 d2 nn1 w1 p2 s1 ss2 cB cO em aK aV fz hv1 hp1) (cwV 1 htb (g_V (fun _ h => h) m_791 m_788 m_789 m_790 m_21) rfl rfl rfl (by decide +kernel) ⟨Nat.le_of_ble_eq_true rfl, Nat.le_of_ble_eq_true rfl⟩) ⟨fun a U g mk q => by obtain ⟨q0, q1, qP, qK, qD, z0⟩ := q; exact ⟨q0, q1, qP, va_K.moved (u := U) (U := U.calling g mk a) (Vm.Alike.refl U.vm) qK, qD, EX.same (U := U) (U' := U.calling g mk a) rfl z0⟩, zz_recv hK hP (ci := 5) rfl (List.mem_append_right _ hpc), fun U hU hW => ⟨rfl, by rw [hU], by rw [hU]; exact hPc, va_K.moved hW.alike hKc, hDc.weaken (fun _ _ _ _ => trivial), by rw [hU]; exact EX.warm hW ((hE.kept (fun a h1 h2 => hS.2.1 a h1 h2)).narrow hFc)⟩⟩ rfl rfl hl.1 rfl (lv_room (Nat.le_of_ble_eq_true rfl)) d_PT_target_13 ⟨Nat.le_of_ble_eq_true rfl, Nat.le_of_ble_eq_true rfl⟩) hS (fun q _ h => hFc q h) hFc (fun r3 u2 t H1 locs ht hvm hw4 hB hz1 hk1 hS => ?_)
        obtain ⟨hP1, hK1, hD1⟩ := hB
        rw [ht] at hP1
        have hK1 := va_K.moved hvm.symm hK1
        have hw4 : r3 = oI (stp w1 s1) := hw4
        obtain ⟨hP, hD⟩ := zz_join (pre := []) (fz := fz) (wc := []) (wr := []) (w1 := ([] ++ fz)) hP hD [] [] rfl rfl (by decide) (by decide) hk1 hFc hP1 hD1
        have hK := (hK.sub (tys' := []) [] rfl).app hK1
        generalize H1 = H at hP hS ⊢
        have hP : va_P (dC, dI) vwCl ([] ++ fz) H := hP
        have hD : va_D A ([] ++ fz) := hD
        have hK : va_K (dC, dI) vwCl [(cB, .byte), (cO, .object "java/lang/Object")] s := hK
        obtain rfl := hw4
        refine lv_istore hx hb d_PT_target_16 hl (by decide) rfl (fun ls hl => ?_)
        have hl : lv_has ls 5 [(4, .int (oI (stp w1 s1))), (2, .ref a1), (3, .ref p2)] := hl
        refine lv_iload hx hb d_PT_target_18 (lv_at hl 0 rfl) ?_
        rcases hm : stp w1 s1 with _ | t0
        · have hm2 : oI (stp w1 s1) = -1 := by rw [hm]; rfl
          refine W.eq (g2 := F0 m 20 ls [.int (-1)]) rfl ?_
          refine lv_if_ge (tgt := 25) hx hb d_PT_target_20 rfl (fun h9 => absurd h9 (by decide)) (fun _ => ?_)
          refine lv_null hx hb d_PT_target_23 ?_
          have hP9 := zz_pickP (pre := []) (fz := fz) (wc := []) hP [] rfl
          have hD9 := zz_pickD (pre := []) (fz := fz) (wc := []) hD [] (by decide) rfl
          have hK9 := hK.sub (tys' := [(cB, .byte), (cO, .object "java/lang/Object")]) [0, 1] rfl
          rw [hQ]
          refine W.widen (k := 0) (n := 0) (Nat.le_of_ble_eq_true rfl) (Nat.le_of_ble_eq_true rfl) ?_
          exact W.aret (v := .null) hx hb hr (Or.inl ⟨_, rfl⟩) (Or.inl rfl) (fun t ht hW => ⟨⟨none, (), rfl, Or.inl ⟨rfl, by rw [← ht1, trg, hm]; rfl⟩, ⟨by rw [ht]; exact hP9, va_K.moved hW.alike hK9, hD9⟩⟩, hS.F ht⟩) hS.2.2 d_PT_target_24
        · have hm2 : oI (stp w1 s1) = nI t0 := by rw [hm]; rfl
          have htl : t0 < xs.length := by have := (stp_lt hm).1; omega
          rw [hm2] at hl
          have hl : lv_has ls 5 [(4, .int (nI t0)), (2, .ref a1), (3, .ref p2)] := hl
          refine W.eq (g2 := F0 m 20 ls [.int (nI t0)]) rfl ?_
          refine lv_if_ge (tgt := 25) hx hb d_PT_target_20 rfl (fun _ => ?_) (fun h9 => absurd (nI_nn t0 (by omega)) h9)
          refine lv_aload_n hx hb d_PT_target_25 rfl (lv_at hl 1 rfl) ?_
          obtain ⟨qz6, hz6⟩ := List.getElem?_of_mem (List.mem_append_right [] hc)
          refine va_get (D := (dC, dI)) (ci := 3) (v := .ref pa) (C := R_VA) (T := T_VA) (N := 7) hx hb htb in_VA hown hK hP qz6 hz6 rfl 4 (by decide) (htb _ m_399) (fun _ h9 => h9) rfl d_PT_target_26 ?_
          refine lv_iload hx hb d_PT_target_29 (lv_at hl 0 rfl) ?_
          have hvt := hvl t0 htl
          obtain ⟨kd0, tx0, nu0, nm0, pa0, dp0, cn0, hc0, hn0⟩ := hvt.cellN
          have hPc : va_P (dC, dI) vwCl ([] ++ fz) _ := zz_tlP (pre := []) (tl := fz) hP
          have hKc := hK.sub (tys' := [(cO, .object "java/lang/Object")]) [1] rfl
          refine va_csq (W.runV (As := [.int (nI t0)]) (rest := []) ⟨hx, hb, hml, hown, htb⟩ (z_AL_get l dC dI pa xs cO em t0 fz hal htl) (cwV 1 htb (g_V (fun _ h => h) m_490 m_797 m_488 m_489 m_8) rfl rfl rfl (by decide +kernel) ⟨Nat.le_of_ble_eq_true rfl, Nat.le_of_ble_eq_true rfl⟩) ⟨fun a U g mk q => by obtain ⟨q0, qP, qK⟩ := q; exact ⟨q0, qP, va_K.moved (u := U) (U := U.calling g mk a) (Vm.Alike.refl U.vm) qK⟩, (hal).recv hK hP (fun q hq => List.mem_append_right _ hq), fun U hU hW => ⟨rfl, by rw [hU]; exact hPc, va_K.moved hW.alike hKc⟩⟩ rfl rfl hl.1 rfl (lv_room (Nat.le_of_ble_eq_true rfl)) d_PT_target_31 ⟨Nat.le_of_ble_eq_true rfl, Nat.le_of_ble_eq_true rfl⟩) (fun r7 hw8 => ?_)
          have hw8 : r7 = some (xs.getD t0 0) := hw8
          obtain rfl := hw8
          refine W.eq (g2 := F0 m 34 ls [.ref (xs.getD t0 0)]) rfl ?_
          refine va_castY (C := "PatchStore$Value") hx hb hown (htb _ m_798) (nw_14 hE) (zz_recv hK hP (ci := 3) rfl (List.mem_append_right _ hc0)) d_PT_target_34 ?_
          refine lv_astore_n hx hb d_PT_target_37 rfl hl (by decide) rfl (fun ls hl => ?_)
          have hl : lv_has ls 5 [(2, .ref (xs.getD t0 0)), (4, .int (nI t0)), (3, .ref p2)] := hl
          refine lv_aload_n hx hb d_PT_target_38 rfl (lv_at hl 2 rfl) ?_
          obtain ⟨qz9, hz9⟩ := List.getElem?_of_mem (List.mem_append_right [] hpc)
          refine va_get (D := (dC, dI)) (ci := 5) (v := .ref b) (C := R_PT) (T := T_PT) (N := 3) hx hb htb in_PT hown hK hP qz9 hz9 rfl 2 (by decide) (htb _ m_630) (fun _ h9 => h9) rfl d_PT_target_39 ?_
          refine lv_astore_n hx hb d_PT_target_42 rfl hl (by decide) rfl (fun ls hl => ?_)
          have hl : lv_has ls 5 [(3, .ref b), (2, .ref (xs.getD t0 0)), (4, .int (nI t0))] := hl
          refine lv_goto (tgt := 4) hx hb d_PT_target_43 rfl ?_
          exact ih (ss2.length) (by simp only [List.length_cons] at hk9; omega) b ss2 (xs.getD t0 0) (ns.getD t0 []) ((ksR w1).getD t0 []) d2 H locs ls rfl (hrest) (hvt) (by rw [← ht1, trg, hm]; rfl) (by omega) (lv_sub hl [1, 0] rfl) (zz_pickP (pre := []) (fz := fz) (wc := []) hP [] rfl) (zz_pickD (pre := []) (fz := fz) (wc := []) hD [] (by decide) rfl) hS
  exact hloop _ p1 ss a nn rows d _ _ ls rfl (hpt) (hv) (rfl) (Nat.le_refl _) (lv_sub hl [1, 0] rfl) (zz_pickP (pre := []) (fz := fz) (wc := []) hP [] rfl) (zz_pickD (pre := []) (fz := fz) (wc := []) hD [] (by decide) rfl) hS
set_option maxHeartbeats 1000000 in
set_option maxRecDepth 100000 in
/-- beginsWith(other) -/
theorem k_PT_beginsWith (l : Launch) (dC : Nat → ClassId) (dI : Nat → Nat → Nat) (sz : Nat) (p1 : Nat) (ss : List (List Nat)) (o1 : Nat) (os : List (List Nat)) (cB : ClassId) (cO : ClassId) (em : Nat) (aK : Nat → Nat) (aV : Nat → Nat) (fz : va_W) (hpt : PTz cB aK fz ss p1) (hpo : PTz cB aK fz os o1) : Met l y_PT_beginsWith ws_PT_beginsWith ({ frames := 2, cells := 0, slots := 0, locals := 44 }) (va_Pc [.ref p1, .ref o1] (fun U => U.heap.size = sz ∧ va_P (dC, dI) vwCl ([] ++ fz) U.heap ∧ va_K (dC, dI) vwCl [(cB, .byte), (cO, .object "java/lang/Object")] U ∧ va_D (fun _ => True) ([] ++ fz) ∧ EX em aK aV (va_A ([] ++ fz) sz) U U.heap)) (va_Qi (fun (r : Int32) (u : Unit) => r = bI (bgn ss os)) (fun u t => va_P (dC, dI) vwCl ([] ++ fz) t.heap ∧ va_K (dC, dI) vwCl [(cB, .byte), (cO, .object "java/lang/Object")] t ∧ va_D (va_A ([] ++ fz) sz) ([] ++ fz)) (va_A ([] ++ fz) sz)) 0 0 (va_A ([] ++ fz) sz) := by
  refine Met.ofW (cc := c_PT_beginsWith) (maxL := 4) (ret := (some .boolean)) (by decide) rfl ?_
  intro p e s m args below meth c s₁ B hml hv
  obtain ⟨hargs, hsz, hP, hK, hD0, hE⟩ := hv
  rw [show entryFrame m args 4 = entryFrame m ([.ref p1, .ref o1]).toArray 4 by rw [hargs]]
  have hx := B.exec
  have hb := B.bytes
  have hr := B.returns
  have hts := atoms_spec (ws := ws_PT_beginsWith) B.pre
  have htb := fun w (h : w ∈ TBL) => hts w (List.mem_cons_of_mem _ h)
  have hown : s.vm.findClass R_PT = some m.cls := findClass_of_methodNamed B.named
  have hlocks := B.notSynchronized
  subst hsz
  have hD := hD0.self (sz := s.heap.size)
  generalize hAe : va_A ([] ++ fz) s.heap.size = A at hD hE ⊢
  have hA : ∀ q : Nat, s.heap.size ≤ q → A q := fun q h => by rw [← hAe]; exact Or.inr h
  have hS : va_S A s.heap s.heap [] := va_S.rf
  have hP : va_P (dC, dI) vwCl ([] ++ fz) s.heap := hP
  have hl := lv_entry ([.ref p1, .ref o1]) (n := 4) (Nat.le_of_ble_eq_true rfl)
  rw [lg_entry_eq]
  generalize (lg_sl ([.ref p1, .ref o1]) ++ List.replicate (4 - (lg_sl ([.ref p1, .ref o1])).length) Slot.unset).toArray = ls at hl ⊢
  have hl : lv_has ls 4 [(0, .ref p1), (1, .ref o1)] := hl
  refine zz_nQ (fun Q hQ => ?_)
  refine lv_aload_n hx hb d_PT_beginsWith_0 rfl (lv_at hl 0 rfl) ?_
  refine lv_astore_n hx hb d_PT_beginsWith_1 rfl hl (by decide) rfl (fun ls hl => ?_)
  have hl : lv_has ls 4 [(2, .ref p1), (0, .ref p1), (1, .ref o1)] := hl
  refine lv_aload_n hx hb d_PT_beginsWith_2 rfl (lv_at hl 2 rfl) ?_
  refine lv_astore_n hx hb d_PT_beginsWith_3 rfl hl (by decide) rfl (fun ls hl => ?_)
  have hl : lv_has ls 4 [(3, .ref o1), (2, .ref p1), (0, .ref p1), (1, .ref o1)] := hl
  have hloop : ∀ (k9 : Nat) (p2 : Nat) (ss1 : List (List Nat)) (o2 : Nat) (os1 : List (List Nat)) (H : Heap) (locs : List Loc) (ls : Array Slot), os1.length = k9 → (PTz cB aK fz ss1 p2) → (PTz cB aK fz os1 o2) → (bgn ss1 os1 = bgn ss os) → lv_has ls 4 [(2, .ref p2), (3, .ref o2)] → va_P (dC, dI) vwCl ([] ++ fz) H → va_D A ([] ++ fz) → va_S A s.heap H locs → W p l e (headSpec ws_PT_beginsWith ({ frames := 2, cells := 0, slots := 0, locals := 44 })).room s m args below meth c H locs 0 0 Q (F0 m 4 ls []) := by
    intro k9
    induction k9 using Nat.strongRecOn with
    | ind k9 ih =>
      intro p2 ss1 o2 os1 H locs ls hk9 hp1 ho1 hbg hl hP hD hS
      rcases os1 with _ | ⟨q1, qs2⟩
      · obtain ⟨st, nu, hoc⟩ := ho1
        refine lv_aload_n hx hb d_PT_beginsWith_4 rfl (lv_at hl 1 rfl) ?_
        obtain ⟨qz1, hz1⟩ := List.getElem?_of_mem (List.mem_append_right [] hoc)
        refine va_get (D := (dC, dI)) (ci := 5) (v := .null) (C := R_PT) (T := T_PT) (N := 3) hx hb htb in_PT hown hK hP qz1 hz1 rfl 2 (by decide) (htb _ m_630) (fun _ h9 => h9) rfl d_PT_beginsWith_5 ?_
        refine lv_ifnullN (tgt := 47) hx hb d_PT_beginsWith_8 rfl ?_
        refine lv_iconst (v := 1) hx hb d_PT_beginsWith_47 (by decide) ?_
        have hP9 := zz_pickP (pre := []) (fz := fz) (wc := []) hP [] rfl
        have hD9 := zz_pickD (pre := []) (fz := fz) (wc := []) hD [] (by decide) rfl
        have hK9 := hK.sub (tys' := [(cB, .byte), (cO, .object "java/lang/Object")]) [0, 1] rfl
        rw [hQ]
        refine W.widen (k := 0) (n := 0) (Nat.le_of_ble_eq_true rfl) (Nat.le_of_ble_eq_true rfl) ?_
        exact W.zret (v := 1) hx hb hr (by decide) (fun t ht hW => ⟨⟨1, (), rfl, by rw [← hbg]; cases ss1 <;> rfl, ⟨by rw [ht]; exact hP9, va_K.moved hW.alike hK9, hD9⟩⟩, hS.F ht⟩) hS.2.2 d_PT_beginsWith_48
      · obtain ⟨sto, bo, hoc, hsto, hcco, hresto⟩ := ho1
        refine lv_aload_n hx hb d_PT_beginsWith_4 rfl (lv_at hl 1 rfl) ?_
        obtain ⟨qz1, hz1⟩ := List.getElem?_of_mem (List.mem_append_right [] hoc)
        refine va_get (D := (dC, dI)) (ci := 5) (v := .ref bo) (C := R_PT) (T := T_PT) (N := 3) hx hb htb in_PT hown hK hP qz1 hz1 rfl 2 (by decide) (htb _ m_630) (fun _ h9 => h9) rfl d_PT_beginsWith_5 ?_
        refine lv_ifnull hx hb d_PT_beginsWith_8 ?_
        rcases ss1 with _ | ⟨s1, ss2⟩
        · obtain ⟨st, nu, hpc⟩ := hp1
          refine lv_aload_n hx hb d_PT_beginsWith_11 rfl (lv_at hl 0 rfl) ?_
          obtain ⟨qz2, hz2⟩ := List.getElem?_of_mem (List.mem_append_right [] hpc)
          refine va_get (D := (dC, dI)) (ci := 5) (v := .null) (C := R_PT) (T := T_PT) (N := 3) hx hb htb in_PT hown hK hP qz2 hz2 rfl 2 (by decide) (htb _ m_630) (fun _ h9 => h9) rfl d_PT_beginsWith_12 ?_
          refine lv_ifnullN (tgt := 32) hx hb d_PT_beginsWith_15 rfl ?_
          refine lv_iconst (v := 0) hx hb d_PT_beginsWith_32 (by decide) ?_
          have hP9 := zz_pickP (pre := []) (fz := fz) (wc := []) hP [] rfl
          have hD9 := zz_pickD (pre := []) (fz := fz) (wc := []) hD [] (by decide) rfl
          have hK9 := hK.sub (tys' := [(cB, .byte), (cO, .object "java/lang/Object")]) [0, 1] rfl
          rw [hQ]
          refine W.widen (k := 0) (n := 0) (Nat.le_of_ble_eq_true rfl) (Nat.le_of_ble_eq_true rfl) ?_
          exact W.zret (v := 0) hx hb hr (by decide) (fun t ht hW => ⟨⟨0, (), rfl, by rw [← hbg]; rfl, ⟨by rw [ht]; exact hP9, va_K.moved hW.alike hK9, hD9⟩⟩, hS.F ht⟩) hS.2.2 d_PT_beginsWith_33
        · obtain ⟨st, b, hpc, hst, hcc, hrest⟩ := hp1
          refine lv_aload_n hx hb d_PT_beginsWith_11 rfl (lv_at hl 0 rfl) ?_
          obtain ⟨qz2, hz2⟩ := List.getElem?_of_mem (List.mem_append_right [] hpc)
          refine va_get (D := (dC, dI)) (ci := 5) (v := .ref b) (C := R_PT) (T := T_PT) (N := 3) hx hb htb in_PT hown hK hP qz2 hz2 rfl 2 (by decide) (htb _ m_630) (fun _ h9 => h9) rfl d_PT_beginsWith_12 ?_
          refine lv_ifnull hx hb d_PT_beginsWith_15 ?_
          refine lv_aload_n hx hb d_PT_beginsWith_18 rfl (lv_at hl 0 rfl) ?_
          obtain ⟨qz3, hz3⟩ := List.getElem?_of_mem (List.mem_append_right [] hpc)
          refine va_get (D := (dC, dI)) (ci := 5) (v := .ref st) (C := R_PT) (T := T_PT) (N := 3) hx hb htb in_PT hown hK hP qz3 hz3 rfl 0 (by decide) (htb _ m_626) (fun _ h9 => h9) rfl d_PT_beginsWith_19 ?_
          refine lv_aload_n hx hb d_PT_beginsWith_22 rfl (lv_at hl 1 rfl) ?_
          obtain ⟨qz4, hz4⟩ := List.getElem?_of_mem (List.mem_append_right [] hoc)
          refine va_get (D := (dC, dI)) (ci := 5) (v := .ref sto) (C := R_PT) (T := T_PT) (N := 3) hx hb htb in_PT hown hK hP qz4 hz4 rfl 0 (by decide) (htb _ m_626) (fun _ h9 => h9) rfl d_PT_beginsWith_23 ?_
          obtain ⟨v_a, hSV_a⟩ := hst.sv htb hE (fun q h1 h2 => hS.2.1 q h1 h2) hK hP (fun q hq => List.mem_append_right _ hq) 0 rfl
          obtain ⟨v_b, hSV_b⟩ := hsto.sv htb hE (fun q h1 h2 => hS.2.1 q h1 h2) hK hP (fun q hq => List.mem_append_right _ hq) 0 rfl
          have hPc : va_P (dC, dI) vwCl [] _ := hP.sub (ws' := []) [] rfl
          have hKc := hK.sub (tys' := []) [] rfl
          refine vp_callSi (W.runV (As := [.ref sto]) (rest := []) ⟨hx, hb, hml, hown, htb⟩ (q_ST_equals l dC dI st sto v_a v_b s1 q1 em aK aV A ) (cwV 1 htb (g_V (fun _ h => h) m_510 m_803 m_508 m_509 m_4) rfl rfl rfl (by decide +kernel) ⟨Nat.le_of_ble_eq_true rfl, Nat.le_of_ble_eq_true rfl⟩) ⟨fun a U g mk q => by obtain ⟨q0, qP, qK, z0, z1, z2⟩ := q; exact ⟨q0, qP, va_K.moved (u := U) (U := U.calling g mk a) (Vm.Alike.refl U.vm) qK, EX.same (U := U) (U' := U.calling g mk a) rfl z0, SV.moved (Vm.Alike.refl U.vm) z1, SV.moved (Vm.Alike.refl U.vm) z2⟩, hSV_a.recv, fun U hU hW => ⟨rfl, by rw [hU]; exact hPc, va_K.moved hW.alike hKc, by rw [hU]; exact EX.warm hW (hE.kept (fun a h1 h2 => hS.2.1 a h1 h2)), by rw [hU]; exact SV.moved hW.alike hSV_a, by rw [hU]; exact SV.moved hW.alike hSV_b⟩⟩ rfl rfl hl.1 rfl (lv_room (Nat.le_of_ble_eq_true rfl)) d_PT_beginsWith_26 ⟨Nat.le_of_ble_eq_true rfl, Nat.le_of_ble_eq_true rfl⟩) (fun r5 hw6 => ?_)
          have hw6 : (r5 = 1 ∧ s1 = q1) ∨ (r5 = 0 ∧ s1 ≠ q1) := hw6
          refine lv_if_ne (tgt := 34) hx hb d_PT_beginsWith_29 rfl (fun h3 => ?_) (fun h3 => ?_)
          · have heq : s1 = q1 := by rcases hw6 with ⟨_, h⟩ | ⟨h, _⟩; exact h; exact absurd h h3
            refine lv_aload_n hx hb d_PT_beginsWith_34 rfl (lv_at hl 0 rfl) ?_
            obtain ⟨qz7, hz7⟩ := List.getElem?_of_mem (List.mem_append_right [] hpc)
            refine va_get (D := (dC, dI)) (ci := 5) (v := .ref b) (C := R_PT) (T := T_PT) (N := 3) hx hb htb in_PT hown hK hP qz7 hz7 rfl 2 (by decide) (htb _ m_630) (fun _ h9 => h9) rfl d_PT_beginsWith_35 ?_
            refine lv_astore_n hx hb d_PT_beginsWith_38 rfl hl (by decide) rfl (fun ls hl => ?_)
            have hl : lv_has ls 4 [(2, .ref b), (3, .ref o2)] := hl
            refine lv_aload_n hx hb d_PT_beginsWith_39 rfl (lv_at hl 1 rfl) ?_
            obtain ⟨qz8, hz8⟩ := List.getElem?_of_mem (List.mem_append_right [] hoc)
            refine va_get (D := (dC, dI)) (ci := 5) (v := .ref bo) (C := R_PT) (T := T_PT) (N := 3) hx hb htb in_PT hown hK hP qz8 hz8 rfl 2 (by decide) (htb _ m_630) (fun _ h9 => h9) rfl d_PT_beginsWith_40 ?_
            refine lv_astore_n hx hb d_PT_beginsWith_43 rfl hl (by decide) rfl (fun ls hl => ?_)
            have hl : lv_has ls 4 [(3, .ref bo), (2, .ref b)] := hl
            refine lv_goto (tgt := 4) hx hb d_PT_beginsWith_44 rfl ?_
            exact ih (qs2.length) (by simp only [List.length_cons] at hk9; omega) b ss2 bo qs2 H locs ls rfl (hrest) (hresto) (by rw [← hbg, bgn, decide_eq_true heq, Bool.true_and]) (lv_sub hl [1, 0] rfl) (zz_pickP (pre := []) (fz := fz) (wc := []) hP [] rfl) (zz_pickD (pre := []) (fz := fz) (wc := []) hD [] (by decide) rfl) hS
          · have hne : s1 ≠ q1 := by rcases hw6 with ⟨h, _⟩ | ⟨_, h⟩; exact absurd (h.symm.trans h3) (by decide); exact h
            refine lv_iconst (v := 0) hx hb d_PT_beginsWith_32 (by decide) ?_
            have hP9 := zz_pickP (pre := []) (fz := fz) (wc := []) hP [] rfl
            have hD9 := zz_pickD (pre := []) (fz := fz) (wc := []) hD [] (by decide) rfl
            have hK9 := hK.sub (tys' := [(cB, .byte), (cO, .object "java/lang/Object")]) [0, 1] rfl
            rw [hQ]
            refine W.widen (k := 0) (n := 0) (Nat.le_of_ble_eq_true rfl) (Nat.le_of_ble_eq_true rfl) ?_
            exact W.zret (v := 0) hx hb hr (by decide) (fun t ht hW => ⟨⟨0, (), rfl, by rw [← hbg, bgn, decide_eq_false hne]; rfl, ⟨by rw [ht]; exact hP9, va_K.moved hW.alike hK9, hD9⟩⟩, hS.F ht⟩) hS.2.2 d_PT_beginsWith_33
  exact hloop _ p1 ss o1 os _ _ ls rfl (hpt) (hpo) (rfl) (lv_sub hl [1, 0] rfl) (zz_pickP (pre := []) (fz := fz) (wc := []) hP [] rfl) (zz_pickD (pre := []) (fz := fz) (wc := []) hD [] (by decide) rfl) hS
