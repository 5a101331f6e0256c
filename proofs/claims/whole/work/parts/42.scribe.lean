def C_SC_spell (d : Nat) : Prop := ∀ (l : Launch) (dC : Nat → ClassId) (dI : Nat → Nat → Nat) (sz : Nat) (x : Nat) (wt : Int32) (q : Int32 × Int32) (a : Nat) (nn : List Nat) (rows : List Row) (cB : ClassId) (cO : ClassId) (em : Nat) (aK : Nat → Nat) (aV : Nat → Nat) (fz : va_W) (hv : VT cB cO em aK d fz a nn rows), Met l y_SC_spell ws_SC_spell ({ frames := (6 + 2 * d), cells := 0, slots := 0, locals := (150 + 60 * d) }) (va_Pc [.ref x, .ref a] (fun U => U.heap.size = sz ∧ va_P (dC, dI) vwCl ([(x, .inr (8, [.int wt, .int q.1, .int q.2]))] ++ fz) U.heap ∧ va_K (dC, dI) vwCl [(cB, .byte), (cO, .object "java/lang/Object")] U ∧ va_D (fun _ => True) ([(x, .inr (8, [.int wt, .int q.1, .int q.2]))] ++ fz) ∧ EX em aK aV (va_A ([(x, .inr (8, [.int wt, .int q.1, .int q.2]))] ++ fz) sz) U U.heap)) (va_Qv (fun (u : Unit) => True) (fun u t => va_P (dC, dI) vwCl ([(x, .inr (8, [.int wt, .int (emz wt q (txt rows)).1, .int (emz wt q (txt rows)).2]))] ++ fz) t.heap ∧ va_K (dC, dI) vwCl [(cB, .byte), (cO, .object "java/lang/Object")] t ∧ va_D (va_A ([(x, .inr (8, [.int wt, .int q.1, .int q.2]))] ++ fz) sz) ([(x, .inr (8, [.int wt, .int (emz wt q (txt rows)).1, .int (emz wt q (txt rows)).2]))] ++ fz)) (va_A ([(x, .inr (8, [.int wt, .int q.1, .int q.2]))] ++ fz) sz)) 0 0 (va_A ([(x, .inr (8, [.int wt, .int q.1, .int q.2]))] ++ fz) sz)
set_option maxHeartbeats 1000000 in
set_option maxRecDepth 100000 in
/-- Scribe(wanted) -/
theorem k_SC_init (l : Launch) (dC : Nat → ClassId) (dI : Nat → Nat → Nat) (sz : Nat) (x : Nat) (wt : Int32) : Met l y_SC_init ws_SC_init ({ frames := 1, cells := 0, slots := 0, locals := 12 }) (va_Pc [.ref x, .int wt] (fun U => U.heap.size = sz ∧ va_P (dC, dI) vwCl [(x, .inr (8, [.int 0, .int 0, .int 0]))] U.heap ∧ va_K (dC, dI) vwCl [] U ∧ va_D (fun _ => True) [(x, .inr (8, [.int 0, .int 0, .int 0]))])) (va_Qv (fun (u : Unit) => True) (fun u t => va_P (dC, dI) vwCl [(x, .inr (8, [.int wt, .int 0, .int (-1)]))] t.heap ∧ va_K (dC, dI) vwCl [] t ∧ va_D (va_A [(x, .inr (8, [.int 0, .int 0, .int 0]))] sz) [(x, .inr (8, [.int wt, .int 0, .int (-1)]))]) (va_A [(x, .inr (8, [.int 0, .int 0, .int 0]))] sz)) 0 0 (va_A [(x, .inr (8, [.int 0, .int 0, .int 0]))] sz) := by
  refine Met.ofW (cc := c_SC_init) (maxL := 2) (ret := none) (by decide) rfl ?_
  intro p e s m args below meth c s₁ B hml hv
  obtain ⟨rfl, hsz, hP, hK, hD0⟩ := hv
  have hx := B.exec
  have hb := B.bytes
  have hr := B.returns
  have hts := atoms_spec (ws := ws_SC_init) B.pre
  have htb := fun w (h : w ∈ TBL) => hts w (List.mem_cons_of_mem _ h)
  have hown : s.vm.findClass R_SC = some m.cls := findClass_of_methodNamed B.named
  have hlocks := B.notSynchronized
  have hin : meth.name = "<init>" := (name_of_methodNamed B.named B.method).1
  subst hsz
  have hD := hD0.self (sz := s.heap.size)
  generalize hAe : va_A [(x, .inr (8, [.int 0, .int 0, .int 0]))] s.heap.size = A at hD ⊢
  have hA : ∀ q : Nat, s.heap.size ≤ q → A q := fun q h => by rw [← hAe]; exact Or.inr h
  have hS : va_S A s.heap s.heap [] := va_S.rf
  have hP : va_P (dC, dI) vwCl [(x, .inr (8, [.int 0, .int 0, .int 0]))] s.heap := hP
  have hl := lv_entry ([.ref x, .int wt]) (n := 2) (Nat.le_of_ble_eq_true rfl)
  rw [lg_entry_eq]
  generalize (lg_sl ([.ref x, .int wt]) ++ List.replicate (2 - (lg_sl ([.ref x, .int wt])).length) Slot.unset).toArray = ls at hl ⊢
  have hl : lv_has ls 2 [(0, .ref x), (1, .int wt)] := hl
  refine lv_aload_n hx hb d_SC_init_0 rfl (lv_at hl 0 rfl) ?_
  refine W.objInit hx hb hown (htb _ m_1060) (htb _ m_35) (htb _ m_36) rfl (by rw [hml]; exact hl.1) rfl d_SC_init_1 (Nat.le_of_ble_eq_true rfl) (Nat.le_of_ble_eq_true rfl) ?_
  refine W.eq (g2 := F0 m 4 ls []) rfl ?_
  refine lv_aload_n hx hb d_SC_init_4 rfl (lv_at hl 0 rfl) ?_
  refine lv_iconst (v := 0) hx hb d_SC_init_5 (by decide) ?_
  refine va_put (D := (dC, dI)) (ci := 8) (v := .int 0) (ty := .int) (C := R_SC) (T := T_SC) (N := 3) hx hb htb in_SC ty_SC ty_SC_ok nm_SC hown hK hP hD hS 0 rfl rfl 1 (by decide) (htb _ m_1062) (fun _ h9 => h9) rfl (by decide +kernel) rfl rfl (Nat.le_of_ble_eq_true rfl) d_SC_init_6 (fun H locs hP hD hS => ?_)
  have hP : va_P (dC, dI) vwCl [(x, .inr (8, [.int 0, .int 0, .int 0]))] H := hP
  have hD : va_D A [(x, .inr (8, [.int 0, .int 0, .int 0]))] := hD
  refine lv_aload_n hx hb d_SC_init_9 rfl (lv_at hl 0 rfl) ?_
  refine lv_iconst (v := (-1)) hx hb d_SC_init_10 (by decide) ?_
  refine va_put (D := (dC, dI)) (ci := 8) (v := .int (-1)) (ty := .int) (C := R_SC) (T := T_SC) (N := 3) hx hb htb in_SC ty_SC ty_SC_ok nm_SC hown hK hP hD hS 0 rfl rfl 2 (by decide) (htb _ m_1064) (fun _ h9 => h9) rfl (by decide +kernel) rfl rfl (Nat.le_of_ble_eq_true rfl) d_SC_init_11 (fun H locs hP hD hS => ?_)
  have hP : va_P (dC, dI) vwCl [(x, .inr (8, [.int 0, .int 0, .int (-1)]))] H := hP
  have hD : va_D A [(x, .inr (8, [.int 0, .int 0, .int (-1)]))] := hD
  refine lv_aload_n hx hb d_SC_init_14 rfl (lv_at hl 0 rfl) ?_
  refine lv_iload_n hx hb d_SC_init_15 rfl (lv_at hl 1 rfl) ?_
  refine va_putF (D := (dC, dI)) (ci := 8) (v := .int wt) (ty := .int) (C := R_SC) (T := T_SC) (N := 3) hx hb htb in_SC ty_SC ty_SC_ok nm_SC hown hK hP hD hS 0 rfl rfl 0 (by decide) (htb _ m_1061) (fun _ h9 => h9) rfl hin rfl (by decide +kernel) rfl rfl (Nat.le_of_ble_eq_true rfl) d_SC_init_16 (fun H locs hP hD hS => ?_)
  have hP : va_P (dC, dI) vwCl [(x, .inr (8, [.int wt, .int 0, .int (-1)]))] H := hP
  have hD : va_D A [(x, .inr (8, [.int wt, .int 0, .int (-1)]))] := hD
  have hP9 := hP.sub (ws' := [(x, .inr (8, [.int wt, .int 0, .int (-1)]))]) [0] rfl
  have hD9 := hD.sub (ws' := [(x, .inr (8, [.int wt, .int 0, .int (-1)]))]) [0] (by decide) rfl
  have hK9 := hK.sub (tys' := []) [] rfl
  refine W.widen (k := 0) (n := 0) (Nat.le_of_ble_eq_true rfl) (Nat.le_of_ble_eq_true rfl) ?_
  exact W.vret hx hb hr (fun t ht hW => ⟨⟨(), rfl, trivial, ⟨by rw [ht]; exact hP9, va_K.moved hW.alike hK9, hD9⟩⟩, hS.F ht⟩) hS.2.2 d_SC_init_19
set_option maxHeartbeats 1000000 in
set_option maxRecDepth 100000 in
/-- next(c) -/
theorem k_SC_next (l : Launch) (dC : Nat → ClassId) (dI : Nat → Nat → Nat) (sz : Nat) (x : Nat) (wt : Int32) (q : Int32 × Int32) (k : Nat) : Met l y_SC_next ws_SC_next ({ frames := 0, cells := 0, slots := 0, locals := 0 }) (va_Pc [.ref x, .int (nI k)] (fun U => U.heap.size = sz ∧ va_P (dC, dI) vwCl [(x, .inr (8, [.int wt, .int q.1, .int q.2]))] U.heap ∧ va_K (dC, dI) vwCl [] U ∧ va_D (fun _ => True) [(x, .inr (8, [.int wt, .int q.1, .int q.2]))])) (va_Qv (fun (u : Unit) => True) (fun u t => va_P (dC, dI) vwCl [(x, .inr (8, [.int wt, .int (emt wt q k).1, .int (emt wt q k).2]))] t.heap ∧ va_K (dC, dI) vwCl [] t ∧ va_D (va_A [(x, .inr (8, [.int wt, .int q.1, .int q.2]))] sz) [(x, .inr (8, [.int wt, .int (emt wt q k).1, .int (emt wt q k).2]))]) (va_A [(x, .inr (8, [.int wt, .int q.1, .int q.2]))] sz)) 0 0 (va_A [(x, .inr (8, [.int wt, .int q.1, .int q.2]))] sz) := by
  refine Met.ofW (cc := c_SC_next) (maxL := 2) (ret := none) (by decide) rfl ?_
  intro p e s m args below meth c s₁ B hml hv
  obtain ⟨rfl, hsz, hP, hK, hD0⟩ := hv
  have hx := B.exec
  have hb := B.bytes
  have hr := B.returns
  have hts := atoms_spec (ws := ws_SC_next) B.pre
  have htb := fun w (h : w ∈ TBL) => hts w (List.mem_cons_of_mem _ h)
  have hown : s.vm.findClass R_SC = some m.cls := findClass_of_methodNamed B.named
  have hlocks := B.notSynchronized
  subst hsz
  have hD := hD0.self (sz := s.heap.size)
  generalize hAe : va_A [(x, .inr (8, [.int wt, .int q.1, .int q.2]))] s.heap.size = A at hD ⊢
  have hA : ∀ q : Nat, s.heap.size ≤ q → A q := fun q h => by rw [← hAe]; exact Or.inr h
  have hS : va_S A s.heap s.heap [] := va_S.rf
  have hP : va_P (dC, dI) vwCl [(x, .inr (8, [.int wt, .int q.1, .int q.2]))] s.heap := hP
  have hl := lv_entry ([.ref x, .int (nI k)]) (n := 2) (Nat.le_of_ble_eq_true rfl)
  rw [lg_entry_eq]
  generalize (lg_sl ([.ref x, .int (nI k)]) ++ List.replicate (2 - (lg_sl ([.ref x, .int (nI k)])).length) Slot.unset).toArray = ls at hl ⊢
  have hl : lv_has ls 2 [(0, .ref x), (1, .int (nI k))] := hl
  refine lv_aload_n hx hb d_SC_next_0 rfl (lv_at hl 0 rfl) ?_
  refine va_get (D := (dC, dI)) (ci := 8) (v := .int q.1) (C := R_SC) (T := T_SC) (N := 3) hx hb htb in_SC hown hK hP 0 rfl rfl 1 (by decide) (htb _ m_1062) (fun _ h9 => h9) rfl d_SC_next_1 ?_
  refine lv_aload_n hx hb d_SC_next_4 rfl (lv_at hl 0 rfl) ?_
  refine va_get (D := (dC, dI)) (ci := 8) (v := .int wt) (C := R_SC) (T := T_SC) (N := 3) hx hb htb in_SC hown hK hP 0 rfl rfl 0 (by decide) (htb _ m_1061) (fun _ h9 => h9) rfl d_SC_next_5 ?_
  refine lv_icmp_ne (tgt := 16) hx hb d_SC_next_8 rfl (fun h1 => ?_) (fun h1 => ?_)
  · refine lv_aload_n hx hb d_SC_next_16 rfl (lv_at hl 0 rfl) ?_
    refine lv_dup hx hb d_SC_next_17 rfl ?_
    refine va_get (D := (dC, dI)) (ci := 8) (v := .int q.1) (C := R_SC) (T := T_SC) (N := 3) hx hb htb in_SC hown hK hP 0 rfl rfl 1 (by decide) (htb _ m_1062) (fun _ h9 => h9) rfl d_SC_next_18 ?_
    refine lv_iconst (v := 1) hx hb d_SC_next_21 (by decide) ?_
    refine lv_iadd hx hb d_SC_next_22 ?_
    refine va_put (D := (dC, dI)) (ci := 8) (v := .int (q.1 + 1)) (ty := .int) (C := R_SC) (T := T_SC) (N := 3) hx hb htb in_SC ty_SC ty_SC_ok nm_SC hown hK hP hD hS 0 rfl rfl 1 (by decide) (htb _ m_1062) (fun _ h9 => h9) rfl (by decide +kernel) rfl rfl (Nat.le_of_ble_eq_true rfl) d_SC_next_23 (fun H locs hP hD hS => ?_)
    have hP : va_P (dC, dI) vwCl [(x, .inr (8, [.int wt, .int (q.1 + 1), .int q.2]))] H := hP
    have hD : va_D A [(x, .inr (8, [.int wt, .int (q.1 + 1), .int q.2]))] := hD
    have e9 : emt wt q k = (q.1 + 1, q.2) := by rw [emt, if_neg h1]
    have hP : va_P (dC, dI) vwCl [(x, .inr (8, [.int wt, .int (emt wt q k).1, .int (emt wt q k).2]))] H := by rw [e9]; exact hP
    have hD : va_D A [(x, .inr (8, [.int wt, .int (emt wt q k).1, .int (emt wt q k).2]))] := by rw [e9]; exact hD
    have hP9 := hP.sub (ws' := [(x, .inr (8, [.int wt, .int (emt wt q k).1, .int (emt wt q k).2]))]) [0] rfl
    have hD9 := hD.sub (ws' := [(x, .inr (8, [.int wt, .int (emt wt q k).1, .int (emt wt q k).2]))]) [0] (by decide) rfl
    have hK9 := hK.sub (tys' := []) [] rfl
    refine W.widen (k := 0) (n := 0) (Nat.le_of_ble_eq_true rfl) (Nat.le_of_ble_eq_true rfl) ?_
    exact W.vret hx hb hr (fun t ht hW => ⟨⟨(), rfl, trivial, ⟨by rw [ht]; exact hP9, va_K.moved hW.alike hK9, hD9⟩⟩, hS.F ht⟩) hS.2.2 d_SC_next_26
  · refine lv_aload_n hx hb d_SC_next_11 rfl (lv_at hl 0 rfl) ?_
    refine lv_iload_n hx hb d_SC_next_12 rfl (lv_at hl 1 rfl) ?_
    refine va_put (D := (dC, dI)) (ci := 8) (v := .int (nI k)) (ty := .int) (C := R_SC) (T := T_SC) (N := 3) hx hb htb in_SC ty_SC ty_SC_ok nm_SC hown hK hP hD hS 0 rfl rfl 2 (by decide) (htb _ m_1064) (fun _ h9 => h9) rfl (by decide +kernel) rfl rfl (Nat.le_of_ble_eq_true rfl) d_SC_next_13 (fun H locs hP hD hS => ?_)
    have hP : va_P (dC, dI) vwCl [(x, .inr (8, [.int wt, .int q.1, .int (nI k)]))] H := hP
    have hD : va_D A [(x, .inr (8, [.int wt, .int q.1, .int (nI k)]))] := hD
    refine lv_aload_n hx hb d_SC_next_16 rfl (lv_at hl 0 rfl) ?_
    refine lv_dup hx hb d_SC_next_17 rfl ?_
    refine va_get (D := (dC, dI)) (ci := 8) (v := .int q.1) (C := R_SC) (T := T_SC) (N := 3) hx hb htb in_SC hown hK hP 0 rfl rfl 1 (by decide) (htb _ m_1062) (fun _ h9 => h9) rfl d_SC_next_18 ?_
    refine lv_iconst (v := 1) hx hb d_SC_next_21 (by decide) ?_
    refine lv_iadd hx hb d_SC_next_22 ?_
    refine va_put (D := (dC, dI)) (ci := 8) (v := .int (q.1 + 1)) (ty := .int) (C := R_SC) (T := T_SC) (N := 3) hx hb htb in_SC ty_SC ty_SC_ok nm_SC hown hK hP hD hS 0 rfl rfl 1 (by decide) (htb _ m_1062) (fun _ h9 => h9) rfl (by decide +kernel) rfl rfl (Nat.le_of_ble_eq_true rfl) d_SC_next_23 (fun H locs hP hD hS => ?_)
    have hP : va_P (dC, dI) vwCl [(x, .inr (8, [.int wt, .int (q.1 + 1), .int (nI k)]))] H := hP
    have hD : va_D A [(x, .inr (8, [.int wt, .int (q.1 + 1), .int (nI k)]))] := hD
    have e9 : emt wt q k = (q.1 + 1, nI k) := by rw [emt, if_pos h1]
    have hP : va_P (dC, dI) vwCl [(x, .inr (8, [.int wt, .int (emt wt q k).1, .int (emt wt q k).2]))] H := by rw [e9]; exact hP
    have hD : va_D A [(x, .inr (8, [.int wt, .int (emt wt q k).1, .int (emt wt q k).2]))] := by rw [e9]; exact hD
    have hP9 := hP.sub (ws' := [(x, .inr (8, [.int wt, .int (emt wt q k).1, .int (emt wt q k).2]))]) [0] rfl
    have hD9 := hD.sub (ws' := [(x, .inr (8, [.int wt, .int (emt wt q k).1, .int (emt wt q k).2]))]) [0] (by decide) rfl
    have hK9 := hK.sub (tys' := []) [] rfl
    refine W.widen (k := 0) (n := 0) (Nat.le_of_ble_eq_true rfl) (Nat.le_of_ble_eq_true rfl) ?_
    exact W.vret hx hb hr (fun t ht hW => ⟨⟨(), rfl, trivial, ⟨by rw [ht]; exact hP9, va_K.moved hW.alike hK9, hD9⟩⟩, hS.F ht⟩) hS.2.2 d_SC_next_26
set_option maxHeartbeats 1000000 in
set_option maxRecDepth 100000 in
/-- spellString(text) -/
theorem k_SC_spellString (l : Launch) (dC : Nat → ClassId) (dI : Nat → Nat → Nat) (sz : Nat) (x : Nat) (wt : Int32) (q : Int32 × Int32) (a : Nat) (tx : List Nat) (cB : ClassId) (em : Nat) (aK : Nat → Nat) (aV : Nat → Nat) (fz : va_W) (htx : TX cB aK fz a tx) : Met l y_SC_spellString ws_SC_spellString ({ frames := 4, cells := 0, slots := 0, locals := 85 }) (va_Pc [.ref x, .ref a] (fun U => U.heap.size = sz ∧ va_P (dC, dI) vwCl ([(x, .inr (8, [.int wt, .int q.1, .int q.2]))] ++ fz) U.heap ∧ va_K (dC, dI) vwCl [(cB, .byte)] U ∧ va_D (fun _ => True) ([(x, .inr (8, [.int wt, .int q.1, .int q.2]))] ++ fz) ∧ EX em aK aV (va_A ([(x, .inr (8, [.int wt, .int q.1, .int q.2]))] ++ fz) sz) U U.heap)) (va_Qv (fun (u : Unit) => True) (fun u t => va_P (dC, dI) vwCl ([(x, .inr (8, [.int wt, .int (emz wt q (strT tx)).1, .int (emz wt q (strT tx)).2]))] ++ fz) t.heap ∧ va_K (dC, dI) vwCl [(cB, .byte)] t ∧ va_D (va_A ([(x, .inr (8, [.int wt, .int q.1, .int q.2]))] ++ fz) sz) ([(x, .inr (8, [.int wt, .int (emz wt q (strT tx)).1, .int (emz wt q (strT tx)).2]))] ++ fz)) (va_A ([(x, .inr (8, [.int wt, .int q.1, .int q.2]))] ++ fz) sz)) 0 0 (va_A ([(x, .inr (8, [.int wt, .int q.1, .int q.2]))] ++ fz) sz) := by
  refine Met.ofW (cc := c_SC_spellString) (maxL := 4) (ret := none) (by decide) rfl ?_
  intro p e s m args below meth c s₁ B hml hv
  obtain ⟨hargs, hsz, hP, hK, hD0, hE⟩ := hv
  rw [show entryFrame m args 4 = entryFrame m ([.ref x, .ref a]).toArray 4 by rw [hargs]]
  have hx := B.exec
  have hb := B.bytes
  have hr := B.returns
  have hts := atoms_spec (ws := ws_SC_spellString) B.pre
  have htb := fun w (h : w ∈ TBL) => hts w (List.mem_cons_of_mem _ h)
  have hown : s.vm.findClass R_SC = some m.cls := findClass_of_methodNamed B.named
  have hlocks := B.notSynchronized
  subst hsz
  have hD := hD0.self (sz := s.heap.size)
  generalize hAe : va_A ([(x, .inr (8, [.int wt, .int q.1, .int q.2]))] ++ fz) s.heap.size = A at hD hE ⊢
  have hA : ∀ q : Nat, s.heap.size ≤ q → A q := fun q h => by rw [← hAe]; exact Or.inr h
  have hS : va_S A s.heap s.heap [] := va_S.rf
  have hP : va_P (dC, dI) vwCl ([(x, .inr (8, [.int wt, .int q.1, .int q.2]))] ++ fz) s.heap := hP
  have hl := lv_entry ([.ref x, .ref a]) (n := 4) (Nat.le_of_ble_eq_true rfl)
  rw [lg_entry_eq]
  generalize (lg_sl ([.ref x, .ref a]) ++ List.replicate (4 - (lg_sl ([.ref x, .ref a])).length) Slot.unset).toArray = ls at hl ⊢
  have hl : lv_has ls 4 [(0, .ref x), (1, .ref a)] := hl
  refine zz_nQ (fun Q hQ => ?_)
  refine lv_aload_n hx hb d_SC_spellString_0 rfl (lv_at hl 0 rfl) ?_
  refine lv_bipush (v := 34) hx hb d_SC_spellString_1 (by decide) ?_
  have hPc := hP.sub (ws' := [(x, .inr (8, [.int wt, .int q.1, .int q.2]))]) [0] rfl
  have hDc := hD.sub (ws' := [(x, .inr (8, [.int wt, .int q.1, .int q.2]))]) [0] (by decide) rfl
  have hFc := va_free (wc := [(x, .inr (8, [.int wt, .int q.1, .int q.2]))]) hD hS hA [0] rfl
  have hKc := hK.sub (tys' := []) [] rfl
  refine va_callv (va_runV (As := [.int (nI 34)]) (rest := []) ⟨hx, hb, hml, hown, htb⟩ (k_SC_next l dC dI _ x wt q 34 ) (cwV 1 htb (g_V (fun _ h => h) m_1084 m_1081 m_1083 m_1647 m_28) rfl rfl rfl (by decide +kernel) ⟨Nat.le_of_ble_eq_true rfl, Nat.le_of_ble_eq_true rfl⟩) ⟨fun a U g mk q => by obtain ⟨q0, q1, qP, qK, qD⟩ := q; exact ⟨q0, q1, qP, va_K.moved (u := U) (U := U.calling g mk a) (Vm.Alike.refl U.vm) qK, qD⟩, va_recv hK hP (ci := 8) rfl (q0 := 0) rfl, fun U hU hW => ⟨rfl, by rw [hU], by rw [hU]; exact hPc, va_K.moved hW.alike hKc, hDc.weaken (fun _ _ _ _ => trivial)⟩⟩ rfl rfl hl.1 rfl (lv_room (Nat.le_of_ble_eq_true rfl)) d_SC_spellString_3 ⟨Nat.le_of_ble_eq_true rfl, Nat.le_of_ble_eq_true rfl⟩) hS (fun q _ h => hFc q h) hFc (fun u1 t H1 locs ht hvm hw3 hB hz1 hk1 hS => ?_)
  obtain ⟨hP1, hK1, hD1⟩ := hB
  rw [ht] at hP1
  have hK1 := va_K.moved hvm.symm hK1
  have hw3 : True := hw3
  obtain ⟨hP, hD⟩ := zz_joinN (pre := [(x, .inr (8, [.int wt, .int q.1, .int q.2]))]) (fz := fz) (wc := [(x, .inr (8, [.int wt, .int q.1, .int q.2]))]) (wr := []) (w1 := [(x, .inr (8, [.int wt, .int (emt wt q 34).1, .int (emt wt q 34).2]))]) hP hD [0] [] rfl rfl (by decide) (by decide) hk1 hFc hP1 hD1
  have hK := (hK.sub (tys' := [(cB, .byte)]) [0] rfl).app hK1
  generalize H1 = H at hP hS ⊢
  have hP : va_P (dC, dI) vwCl ([(x, .inr (8, [.int wt, .int (emt wt q 34).1, .int (emt wt q 34).2]))] ++ fz) H := hP
  have hD : va_D A ([(x, .inr (8, [.int wt, .int (emt wt q 34).1, .int (emt wt q 34).2]))] ++ fz) := hD
  have hK : va_K (dC, dI) vwCl [(cB, .byte)] s := hK
  refine lv_iconst (v := 0) hx hb d_SC_spellString_6 (by decide) ?_
  refine lv_istore_n hx hb d_SC_spellString_7 rfl hl (by decide) rfl (fun ls hl => ?_)
  have hl : lv_has ls 4 [(2, .int 0), (0, .ref x), (1, .ref a)] := hl
  have h34 : emt wt q 34 = (emz wt q (34 :: (tx.take 0).flatMap escC)) := rfl
  rw [show (emt wt q 34) = (emz wt q (34 :: (tx.take 0).flatMap escC)) from h34] at hP hD
  have hP : va_P (dC, dI) vwCl ([(x, .inr (8, [.int wt, .int (emz wt q (34 :: (tx.take 0).flatMap escC)).1, .int (emz wt q (34 :: (tx.take 0).flatMap escC)).2]))] ++ fz) H := hP
  have hD : va_D A ([(x, .inr (8, [.int wt, .int (emz wt q (34 :: (tx.take 0).flatMap escC)).1, .int (emz wt q (34 :: (tx.take 0).flatMap escC)).2]))] ++ fz) := hD
  have hloop : ∀ (k9 : Nat) (i : Nat) (H : Heap) (locs : List Loc) (ls : Array Slot), tx.length - i = k9 → (i ≤ tx.length) → lv_has ls 4 [(2, .int (nI i)), (0, .ref x), (1, .ref a)] → va_P (dC, dI) vwCl ([(x, .inr (8, [.int wt, .int (emz wt q (34 :: (tx.take i).flatMap escC)).1, .int (emz wt q (34 :: (tx.take i).flatMap escC)).2]))] ++ fz) H → va_D A ([(x, .inr (8, [.int wt, .int (emz wt q (34 :: (tx.take i).flatMap escC)).1, .int (emz wt q (34 :: (tx.take i).flatMap escC)).2]))] ++ fz) → va_S A s.heap H locs → W p l e (headSpec ws_SC_spellString ({ frames := 4, cells := 0, slots := 0, locals := 85 })).room s m args below meth c H locs 0 0 Q (F0 m 8 ls []) := by
    intro k9
    induction k9 using Nat.strongRecOn with
    | ind k9 ih =>
      intro i H locs ls hk9 hi hl hP hD hS
      refine lv_iload_n hx hb d_SC_spellString_8 rfl (lv_at hl 0 rfl) ?_
      refine lv_aload_n hx hb d_SC_spellString_9 rfl (lv_at hl 2 rfl) ?_
      obtain ⟨v_a, hSV_a⟩ := htx.sv htb hE (fun q h1 h2 => hS.2.1 q h1 h2) hK hP (fun q hq => List.mem_append_right _ hq) 0 rfl
      have hlt : tx.length < 65536 := hSV_a.2.2.2.2.2
      have hPc : va_P (dC, dI) vwCl [] _ := hP.sub (ws' := []) [] rfl
      have hKc := hK.sub (tys' := []) [] rfl
      refine vp_callSi (W.runV (As := []) (rest := [.int (nI i)]) ⟨hx, hb, hml, hown, htb⟩ (q_ST_length l dC dI a v_a tx em aK aV A ) (cwV 0 htb (g_V (fun _ h => h) m_452 m_1085 m_450 m_451 m_4) rfl rfl rfl (by decide +kernel) ⟨Nat.le_of_ble_eq_true rfl, Nat.le_of_ble_eq_true rfl⟩) ⟨fun a U g mk q => by obtain ⟨q0, qP, qK, z0, z1⟩ := q; exact ⟨q0, qP, va_K.moved (u := U) (U := U.calling g mk a) (Vm.Alike.refl U.vm) qK, EX.same (U := U) (U' := U.calling g mk a) rfl z0, SV.moved (Vm.Alike.refl U.vm) z1⟩, hSV_a.recv, fun U hU hW => ⟨rfl, by rw [hU]; exact hPc, va_K.moved hW.alike hKc, by rw [hU]; exact EX.warm hW (hE.kept (fun a h1 h2 => hS.2.1 a h1 h2)), by rw [hU]; exact SV.moved hW.alike hSV_a⟩⟩ rfl rfl hl.1 rfl (lv_room (Nat.le_of_ble_eq_true rfl)) d_SC_spellString_10 ⟨Nat.le_of_ble_eq_true rfl, Nat.le_of_ble_eq_true rfl⟩) (fun r5 hw6 => ?_)
      have hw6 : r5 = nI tx.length := hw6
      obtain rfl := hw6
      refine lv_icmp_ge (tgt := 51) hx hb d_SC_spellString_13 rfl (fun h1 => ?_) (fun h1 => ?_)
      · have h1 : tx.length ≤ i := (nI_leI (by omega) (by omega)).mp h1
        rw [List.take_of_length_le h1] at hP hD
        have hP : va_P (dC, dI) vwCl ([(x, .inr (8, [.int wt, .int (emz wt q (34 :: tx.flatMap escC)).1, .int (emz wt q (34 :: tx.flatMap escC)).2]))] ++ fz) H := hP
        have hD : va_D A ([(x, .inr (8, [.int wt, .int (emz wt q (34 :: tx.flatMap escC)).1, .int (emz wt q (34 :: tx.flatMap escC)).2]))] ++ fz) := hD
        refine lv_aload_n hx hb d_SC_spellString_51 rfl (lv_at hl 1 rfl) ?_
        refine lv_bipush (v := 34) hx hb d_SC_spellString_52 (by decide) ?_
        have hPc := hP.sub (ws' := [(x, .inr (8, [.int wt, .int (emz wt q (34 :: tx.flatMap escC)).1, .int (emz wt q (34 :: tx.flatMap escC)).2]))]) [0] rfl
        have hDc := hD.sub (ws' := [(x, .inr (8, [.int wt, .int (emz wt q (34 :: tx.flatMap escC)).1, .int (emz wt q (34 :: tx.flatMap escC)).2]))]) [0] (by decide) rfl
        have hFc := va_free (wc := [(x, .inr (8, [.int wt, .int (emz wt q (34 :: tx.flatMap escC)).1, .int (emz wt q (34 :: tx.flatMap escC)).2]))]) hD hS hA [0] rfl
        have hKc := hK.sub (tys' := []) [] rfl
        refine va_callv (va_runV (As := [.int (nI 34)]) (rest := []) ⟨hx, hb, hml, hown, htb⟩ (k_SC_next l dC dI _ x wt (emz wt q (34 :: tx.flatMap escC)) 34 ) (cwV 1 htb (g_V (fun _ h => h) m_1084 m_1081 m_1083 m_1647 m_28) rfl rfl rfl (by decide +kernel) ⟨Nat.le_of_ble_eq_true rfl, Nat.le_of_ble_eq_true rfl⟩) ⟨fun a U g mk q => by obtain ⟨q0, q1, qP, qK, qD⟩ := q; exact ⟨q0, q1, qP, va_K.moved (u := U) (U := U.calling g mk a) (Vm.Alike.refl U.vm) qK, qD⟩, va_recv hK hP (ci := 8) rfl (q0 := 0) rfl, fun U hU hW => ⟨rfl, by rw [hU], by rw [hU]; exact hPc, va_K.moved hW.alike hKc, hDc.weaken (fun _ _ _ _ => trivial)⟩⟩ rfl rfl hl.1 rfl (lv_room (Nat.le_of_ble_eq_true rfl)) d_SC_spellString_54 ⟨Nat.le_of_ble_eq_true rfl, Nat.le_of_ble_eq_true rfl⟩) hS (fun q _ h => hFc q h) hFc (fun u7 t H1 locs ht hvm hw9 hB hz1 hk1 hS => ?_)
        obtain ⟨hP1, hK1, hD1⟩ := hB
        rw [ht] at hP1
        have hK1 := va_K.moved hvm.symm hK1
        have hw9 : True := hw9
        obtain ⟨hP, hD⟩ := zz_joinN (pre := [(x, .inr (8, [.int wt, .int (emz wt q (34 :: tx.flatMap escC)).1, .int (emz wt q (34 :: tx.flatMap escC)).2]))]) (fz := fz) (wc := [(x, .inr (8, [.int wt, .int (emz wt q (34 :: tx.flatMap escC)).1, .int (emz wt q (34 :: tx.flatMap escC)).2]))]) (wr := []) (w1 := [(x, .inr (8, [.int wt, .int (emt wt (emz wt q (34 :: tx.flatMap escC)) 34).1, .int (emt wt (emz wt q (34 :: tx.flatMap escC)) 34).2]))]) hP hD [0] [] rfl rfl (by decide) (by decide) hk1 hFc hP1 hD1
        have hK := (hK.sub (tys' := [(cB, .byte)]) [0] rfl).app hK1
        generalize H1 = H at hP hS ⊢
        have hP : va_P (dC, dI) vwCl ([(x, .inr (8, [.int wt, .int (emt wt (emz wt q (34 :: tx.flatMap escC)) 34).1, .int (emt wt (emz wt q (34 :: tx.flatMap escC)) 34).2]))] ++ fz) H := hP
        have hD : va_D A ([(x, .inr (8, [.int wt, .int (emt wt (emz wt q (34 :: tx.flatMap escC)) 34).1, .int (emt wt (emz wt q (34 :: tx.flatMap escC)) 34).2]))] ++ fz) := hD
        have hK : va_K (dC, dI) vwCl [(cB, .byte)] s := hK
        rw [show (emt wt (emz wt q (34 :: tx.flatMap escC)) 34) = (emz wt q (strT tx)) from by rw [← emz_one (wt := wt), ← emz_app]; rfl] at hP hD
        have hP : va_P (dC, dI) vwCl ([(x, .inr (8, [.int wt, .int (emz wt q (strT tx)).1, .int (emz wt q (strT tx)).2]))] ++ fz) H := hP
        have hD : va_D A ([(x, .inr (8, [.int wt, .int (emz wt q (strT tx)).1, .int (emz wt q (strT tx)).2]))] ++ fz) := hD
        have hP9 := zz_pickP (pre := [(x, .inr (8, [.int wt, .int (emz wt q (strT tx)).1, .int (emz wt q (strT tx)).2]))]) (fz := fz) (wc := [(x, .inr (8, [.int wt, .int (emz wt q (strT tx)).1, .int (emz wt q (strT tx)).2]))]) hP [0] rfl
        have hD9 := zz_pickD (pre := [(x, .inr (8, [.int wt, .int (emz wt q (strT tx)).1, .int (emz wt q (strT tx)).2]))]) (fz := fz) (wc := [(x, .inr (8, [.int wt, .int (emz wt q (strT tx)).1, .int (emz wt q (strT tx)).2]))]) hD [0] (by decide) rfl
        have hK9 := hK.sub (tys' := [(cB, .byte)]) [0] rfl
        rw [hQ]
        refine W.widen (k := 0) (n := 0) (Nat.le_of_ble_eq_true rfl) (Nat.le_of_ble_eq_true rfl) ?_
        exact W.vret hx hb hr (fun t ht hW => ⟨⟨(), rfl, trivial, ⟨by rw [ht]; exact hP9, va_K.moved hW.alike hK9, hD9⟩⟩, hS.F ht⟩) hS.2.2 d_SC_spellString_57
      · have h1 : i < tx.length := Nat.not_le.mp (fun h => h1 ((nI_leI (by omega) (by omega)).mpr h))
        have hcl := hSV_a.2.2.2.lt i
        refine lv_aload_n hx hb d_SC_spellString_16 rfl (lv_at hl 2 rfl) ?_
        refine lv_iload_n hx hb d_SC_spellString_17 rfl (lv_at hl 0 rfl) ?_
        have hPc : va_P (dC, dI) vwCl [] _ := hP.sub (ws' := []) [] rfl
        have hKc := hK.sub (tys' := []) [] rfl
        refine vp_callSi (W.runV (As := [.int (nI i)]) (rest := []) ⟨hx, hb, hml, hown, htb⟩ (q_ST_charAt l dC dI a v_a tx em aK aV A i h1) (cwV 1 htb (g_V (fun _ h => h) m_460 m_1086 m_458 m_459 m_4) rfl rfl rfl (by decide +kernel) ⟨Nat.le_of_ble_eq_true rfl, Nat.le_of_ble_eq_true rfl⟩) ⟨fun a U g mk q => by obtain ⟨q0, qP, qK, z0, z1⟩ := q; exact ⟨q0, qP, va_K.moved (u := U) (U := U.calling g mk a) (Vm.Alike.refl U.vm) qK, EX.same (U := U) (U' := U.calling g mk a) rfl z0, SV.moved (Vm.Alike.refl U.vm) z1⟩, hSV_a.recv, fun U hU hW => ⟨rfl, by rw [hU]; exact hPc, va_K.moved hW.alike hKc, by rw [hU]; exact EX.warm hW (hE.kept (fun a h1 h2 => hS.2.1 a h1 h2)), by rw [hU]; exact SV.moved hW.alike hSV_a⟩⟩ rfl rfl hl.1 rfl (lv_room (Nat.le_of_ble_eq_true rfl)) d_SC_spellString_18 ⟨Nat.le_of_ble_eq_true rfl, Nat.le_of_ble_eq_true rfl⟩) (fun r7 hw8 => ?_)
        have hw8 : r7 = nI (tx.getD i 0) := hw8
        obtain rfl := hw8
        refine lv_istore_n hx hb d_SC_spellString_21 rfl hl (by decide) rfl (fun ls hl => ?_)
        have hl : lv_has ls 4 [(3, .int (nI (tx.getD i 0))), (2, .int (nI i)), (0, .ref x), (1, .ref a)] := hl
        refine lv_iload_n hx hb d_SC_spellString_22 rfl (lv_at hl 0 rfl) ?_
        refine lv_bipush (v := 34) hx hb d_SC_spellString_23 (by decide) ?_
        refine lv_icmp_eq (tgt := 34) hx hb d_SC_spellString_25 rfl (fun h2 => ?_) (fun h2 => ?_)
        · have hq9 : tx.getD i 0 = 34 ∨ tx.getD i 0 = 92 := Or.inl ((nI_eq (by omega) (by decide)).mp h2)
          refine lv_aload_n hx hb d_SC_spellString_34 rfl (lv_at hl 2 rfl) ?_
          refine lv_bipush (v := 92) hx hb d_SC_spellString_35 (by decide) ?_
          have hPc := hP.sub (ws' := [(x, .inr (8, [.int wt, .int (emz wt q (34 :: (tx.take i).flatMap escC)).1, .int (emz wt q (34 :: (tx.take i).flatMap escC)).2]))]) [0] rfl
          have hDc := hD.sub (ws' := [(x, .inr (8, [.int wt, .int (emz wt q (34 :: (tx.take i).flatMap escC)).1, .int (emz wt q (34 :: (tx.take i).flatMap escC)).2]))]) [0] (by decide) rfl
          have hFc := va_free (wc := [(x, .inr (8, [.int wt, .int (emz wt q (34 :: (tx.take i).flatMap escC)).1, .int (emz wt q (34 :: (tx.take i).flatMap escC)).2]))]) hD hS hA [0] rfl
          have hKc := hK.sub (tys' := []) [] rfl
          refine va_callv (va_runV (As := [.int (nI 92)]) (rest := []) ⟨hx, hb, hml, hown, htb⟩ (k_SC_next l dC dI _ x wt (emz wt q (34 :: (tx.take i).flatMap escC)) 92 ) (cwV 1 htb (g_V (fun _ h => h) m_1084 m_1081 m_1083 m_1647 m_28) rfl rfl rfl (by decide +kernel) ⟨Nat.le_of_ble_eq_true rfl, Nat.le_of_ble_eq_true rfl⟩) ⟨fun a U g mk q => by obtain ⟨q0, q1, qP, qK, qD⟩ := q; exact ⟨q0, q1, qP, va_K.moved (u := U) (U := U.calling g mk a) (Vm.Alike.refl U.vm) qK, qD⟩, va_recv hK hP (ci := 8) rfl (q0 := 0) rfl, fun U hU hW => ⟨rfl, by rw [hU], by rw [hU]; exact hPc, va_K.moved hW.alike hKc, hDc.weaken (fun _ _ _ _ => trivial)⟩⟩ rfl rfl hl.1 rfl (lv_room (Nat.le_of_ble_eq_true rfl)) d_SC_spellString_37 ⟨Nat.le_of_ble_eq_true rfl, Nat.le_of_ble_eq_true rfl⟩) hS (fun q _ h => hFc q h) hFc (fun u9 t H1 locs ht hvm hw11 hB hz1 hk1 hS => ?_)
          obtain ⟨hP1, hK1, hD1⟩ := hB
          rw [ht] at hP1
          have hK1 := va_K.moved hvm.symm hK1
          have hw11 : True := hw11
          obtain ⟨hP, hD⟩ := zz_joinN (pre := [(x, .inr (8, [.int wt, .int (emz wt q (34 :: (tx.take i).flatMap escC)).1, .int (emz wt q (34 :: (tx.take i).flatMap escC)).2]))]) (fz := fz) (wc := [(x, .inr (8, [.int wt, .int (emz wt q (34 :: (tx.take i).flatMap escC)).1, .int (emz wt q (34 :: (tx.take i).flatMap escC)).2]))]) (wr := []) (w1 := [(x, .inr (8, [.int wt, .int (emt wt (emz wt q (34 :: (tx.take i).flatMap escC)) 92).1, .int (emt wt (emz wt q (34 :: (tx.take i).flatMap escC)) 92).2]))]) hP hD [0] [] rfl rfl (by decide) (by decide) hk1 hFc hP1 hD1
          have hK := (hK.sub (tys' := [(cB, .byte)]) [0] rfl).app hK1
          generalize H1 = H at hP hS ⊢
          have hP : va_P (dC, dI) vwCl ([(x, .inr (8, [.int wt, .int (emt wt (emz wt q (34 :: (tx.take i).flatMap escC)) 92).1, .int (emt wt (emz wt q (34 :: (tx.take i).flatMap escC)) 92).2]))] ++ fz) H := hP
          have hD : va_D A ([(x, .inr (8, [.int wt, .int (emt wt (emz wt q (34 :: (tx.take i).flatMap escC)) 92).1, .int (emt wt (emz wt q (34 :: (tx.take i).flatMap escC)) 92).2]))] ++ fz) := hD
          have hK : va_K (dC, dI) vwCl [(cB, .byte)] s := hK
          refine lv_aload_n hx hb d_SC_spellString_40 rfl (lv_at hl 2 rfl) ?_
          refine lv_iload_n hx hb d_SC_spellString_41 rfl (lv_at hl 0 rfl) ?_
          have hPc := hP.sub (ws' := [(x, .inr (8, [.int wt, .int (emt wt (emz wt q (34 :: (tx.take i).flatMap escC)) 92).1, .int (emt wt (emz wt q (34 :: (tx.take i).flatMap escC)) 92).2]))]) [0] rfl
          have hDc := hD.sub (ws' := [(x, .inr (8, [.int wt, .int (emt wt (emz wt q (34 :: (tx.take i).flatMap escC)) 92).1, .int (emt wt (emz wt q (34 :: (tx.take i).flatMap escC)) 92).2]))]) [0] (by decide) rfl
          have hFc := va_free (wc := [(x, .inr (8, [.int wt, .int (emt wt (emz wt q (34 :: (tx.take i).flatMap escC)) 92).1, .int (emt wt (emz wt q (34 :: (tx.take i).flatMap escC)) 92).2]))]) hD hS hA [0] rfl
          have hKc := hK.sub (tys' := []) [] rfl
          refine va_callv (va_runV (As := [.int (nI (tx.getD i 0))]) (rest := []) ⟨hx, hb, hml, hown, htb⟩ (k_SC_next l dC dI _ x wt (emt wt (emz wt q (34 :: (tx.take i).flatMap escC)) 92) (tx.getD i 0) ) (cwV 1 htb (g_V (fun _ h => h) m_1084 m_1081 m_1083 m_1647 m_28) rfl rfl rfl (by decide +kernel) ⟨Nat.le_of_ble_eq_true rfl, Nat.le_of_ble_eq_true rfl⟩) ⟨fun a U g mk q => by obtain ⟨q0, q1, qP, qK, qD⟩ := q; exact ⟨q0, q1, qP, va_K.moved (u := U) (U := U.calling g mk a) (Vm.Alike.refl U.vm) qK, qD⟩, va_recv hK hP (ci := 8) rfl (q0 := 0) rfl, fun U hU hW => ⟨rfl, by rw [hU], by rw [hU]; exact hPc, va_K.moved hW.alike hKc, hDc.weaken (fun _ _ _ _ => trivial)⟩⟩ rfl rfl hl.1 rfl (lv_room (Nat.le_of_ble_eq_true rfl)) d_SC_spellString_42 ⟨Nat.le_of_ble_eq_true rfl, Nat.le_of_ble_eq_true rfl⟩) hS (fun q _ h => hFc q h) hFc (fun u13 t H1 locs ht hvm hw15 hB hz1 hk1 hS => ?_)
          obtain ⟨hP1, hK1, hD1⟩ := hB
          rw [ht] at hP1
          have hK1 := va_K.moved hvm.symm hK1
          have hw15 : True := hw15
          obtain ⟨hP, hD⟩ := zz_joinN (pre := [(x, .inr (8, [.int wt, .int (emt wt (emz wt q (34 :: (tx.take i).flatMap escC)) 92).1, .int (emt wt (emz wt q (34 :: (tx.take i).flatMap escC)) 92).2]))]) (fz := fz) (wc := [(x, .inr (8, [.int wt, .int (emt wt (emz wt q (34 :: (tx.take i).flatMap escC)) 92).1, .int (emt wt (emz wt q (34 :: (tx.take i).flatMap escC)) 92).2]))]) (wr := []) (w1 := [(x, .inr (8, [.int wt, .int (emt wt (emt wt (emz wt q (34 :: (tx.take i).flatMap escC)) 92) (tx.getD i 0)).1, .int (emt wt (emt wt (emz wt q (34 :: (tx.take i).flatMap escC)) 92) (tx.getD i 0)).2]))]) hP hD [0] [] rfl rfl (by decide) (by decide) hk1 hFc hP1 hD1
          have hK := (hK.sub (tys' := [(cB, .byte)]) [0] rfl).app hK1
          generalize H1 = H at hP hS ⊢
          have hP : va_P (dC, dI) vwCl ([(x, .inr (8, [.int wt, .int (emt wt (emt wt (emz wt q (34 :: (tx.take i).flatMap escC)) 92) (tx.getD i 0)).1, .int (emt wt (emt wt (emz wt q (34 :: (tx.take i).flatMap escC)) 92) (tx.getD i 0)).2]))] ++ fz) H := hP
          have hD : va_D A ([(x, .inr (8, [.int wt, .int (emt wt (emt wt (emz wt q (34 :: (tx.take i).flatMap escC)) 92) (tx.getD i 0)).1, .int (emt wt (emt wt (emz wt q (34 :: (tx.take i).flatMap escC)) 92) (tx.getD i 0)).2]))] ++ fz) := hD
          have hK : va_K (dC, dI) vwCl [(cB, .byte)] s := hK
          have hes : escC (tx.getD i 0) = [92, tx.getD i 0] := if_pos hq9
          rw [show (emt wt (emt wt (emz wt q (34 :: (tx.take i).flatMap escC)) 92) (tx.getD i 0)) = (emz wt q (34 :: (tx.take (i + 1)).flatMap escC)) from by rw [take_step 0 h1, List.flatMap_append, ← List.cons_append, emz_app, show [tx.getD i 0].flatMap escC = escC (tx.getD i 0) by simp, hes]; rfl] at hP hD
          have hP : va_P (dC, dI) vwCl ([(x, .inr (8, [.int wt, .int (emz wt q (34 :: (tx.take (i + 1)).flatMap escC)).1, .int (emz wt q (34 :: (tx.take (i + 1)).flatMap escC)).2]))] ++ fz) H := hP
          have hD : va_D A ([(x, .inr (8, [.int wt, .int (emz wt q (34 :: (tx.take (i + 1)).flatMap escC)).1, .int (emz wt q (34 :: (tx.take (i + 1)).flatMap escC)).2]))] ++ fz) := hD
          refine lv_iinc (k := 1) (v := ((nI i) + Int32.ofInt 1)) hx hb d_SC_spellString_45 hl rfl rfl (by decide) rfl (fun ls hl => ?_)
          have hl : lv_has ls 4 [(2, .int ((nI i) + Int32.ofInt 1)), (3, .int (nI (tx.getD i 0))), (0, .ref x), (1, .ref a)] := hl
          rw [show nI i + Int32.ofInt 1 = nI (i + 1) from nI_1 _] at hl
          refine lv_goto (tgt := 8) hx hb d_SC_spellString_48 rfl ?_
          exact ih (tx.length - (i + 1)) (by omega) (i + 1) H locs ls rfl (by omega) (lv_sub hl [0, 2, 3] rfl) (zz_pickP (pre := [(x, .inr (8, [.int wt, .int (emz wt q (34 :: (tx.take (i + 1)).flatMap escC)).1, .int (emz wt q (34 :: (tx.take (i + 1)).flatMap escC)).2]))]) (fz := fz) (wc := [(x, .inr (8, [.int wt, .int (emz wt q (34 :: (tx.take (i + 1)).flatMap escC)).1, .int (emz wt q (34 :: (tx.take (i + 1)).flatMap escC)).2]))]) hP [0] rfl) (zz_pickD (pre := [(x, .inr (8, [.int wt, .int (emz wt q (34 :: (tx.take (i + 1)).flatMap escC)).1, .int (emz wt q (34 :: (tx.take (i + 1)).flatMap escC)).2]))]) (fz := fz) (wc := [(x, .inr (8, [.int wt, .int (emz wt q (34 :: (tx.take (i + 1)).flatMap escC)).1, .int (emz wt q (34 :: (tx.take (i + 1)).flatMap escC)).2]))]) hD [0] (by decide) rfl) hS
        · have h2 : ¬ tx.getD i 0 = 34 := fun h => h2 (by rw [h]; rfl)
          refine lv_iload_n hx hb d_SC_spellString_28 rfl (lv_at hl 0 rfl) ?_
          refine lv_bipush (v := 92) hx hb d_SC_spellString_29 (by decide) ?_
          refine lv_icmp_ne (tgt := 40) hx hb d_SC_spellString_31 rfl (fun h3 => ?_) (fun h3 => ?_)
          · have h3 : ¬ tx.getD i 0 = 92 := fun h => h3 (by rw [h]; rfl)
            refine lv_aload_n hx hb d_SC_spellString_40 rfl (lv_at hl 2 rfl) ?_
            refine lv_iload_n hx hb d_SC_spellString_41 rfl (lv_at hl 0 rfl) ?_
            have hPc := hP.sub (ws' := [(x, .inr (8, [.int wt, .int (emz wt q (34 :: (tx.take i).flatMap escC)).1, .int (emz wt q (34 :: (tx.take i).flatMap escC)).2]))]) [0] rfl
            have hDc := hD.sub (ws' := [(x, .inr (8, [.int wt, .int (emz wt q (34 :: (tx.take i).flatMap escC)).1, .int (emz wt q (34 :: (tx.take i).flatMap escC)).2]))]) [0] (by decide) rfl
            have hFc := va_free (wc := [(x, .inr (8, [.int wt, .int (emz wt q (34 :: (tx.take i).flatMap escC)).1, .int (emz wt q (34 :: (tx.take i).flatMap escC)).2]))]) hD hS hA [0] rfl
            have hKc := hK.sub (tys' := []) [] rfl
            refine va_callv (va_runV (As := [.int (nI (tx.getD i 0))]) (rest := []) ⟨hx, hb, hml, hown, htb⟩ (k_SC_next l dC dI _ x wt (emz wt q (34 :: (tx.take i).flatMap escC)) (tx.getD i 0) ) (cwV 1 htb (g_V (fun _ h => h) m_1084 m_1081 m_1083 m_1647 m_28) rfl rfl rfl (by decide +kernel) ⟨Nat.le_of_ble_eq_true rfl, Nat.le_of_ble_eq_true rfl⟩) ⟨fun a U g mk q => by obtain ⟨q0, q1, qP, qK, qD⟩ := q; exact ⟨q0, q1, qP, va_K.moved (u := U) (U := U.calling g mk a) (Vm.Alike.refl U.vm) qK, qD⟩, va_recv hK hP (ci := 8) rfl (q0 := 0) rfl, fun U hU hW => ⟨rfl, by rw [hU], by rw [hU]; exact hPc, va_K.moved hW.alike hKc, hDc.weaken (fun _ _ _ _ => trivial)⟩⟩ rfl rfl hl.1 rfl (lv_room (Nat.le_of_ble_eq_true rfl)) d_SC_spellString_42 ⟨Nat.le_of_ble_eq_true rfl, Nat.le_of_ble_eq_true rfl⟩) hS (fun q _ h => hFc q h) hFc (fun u9 t H1 locs ht hvm hw11 hB hz1 hk1 hS => ?_)
            obtain ⟨hP1, hK1, hD1⟩ := hB
            rw [ht] at hP1
            have hK1 := va_K.moved hvm.symm hK1
            have hw11 : True := hw11
            obtain ⟨hP, hD⟩ := zz_joinN (pre := [(x, .inr (8, [.int wt, .int (emz wt q (34 :: (tx.take i).flatMap escC)).1, .int (emz wt q (34 :: (tx.take i).flatMap escC)).2]))]) (fz := fz) (wc := [(x, .inr (8, [.int wt, .int (emz wt q (34 :: (tx.take i).flatMap escC)).1, .int (emz wt q (34 :: (tx.take i).flatMap escC)).2]))]) (wr := []) (w1 := [(x, .inr (8, [.int wt, .int (emt wt (emz wt q (34 :: (tx.take i).flatMap escC)) (tx.getD i 0)).1, .int (emt wt (emz wt q (34 :: (tx.take i).flatMap escC)) (tx.getD i 0)).2]))]) hP hD [0] [] rfl rfl (by decide) (by decide) hk1 hFc hP1 hD1
            have hK := (hK.sub (tys' := [(cB, .byte)]) [0] rfl).app hK1
            generalize H1 = H at hP hS ⊢
            have hP : va_P (dC, dI) vwCl ([(x, .inr (8, [.int wt, .int (emt wt (emz wt q (34 :: (tx.take i).flatMap escC)) (tx.getD i 0)).1, .int (emt wt (emz wt q (34 :: (tx.take i).flatMap escC)) (tx.getD i 0)).2]))] ++ fz) H := hP
            have hD : va_D A ([(x, .inr (8, [.int wt, .int (emt wt (emz wt q (34 :: (tx.take i).flatMap escC)) (tx.getD i 0)).1, .int (emt wt (emz wt q (34 :: (tx.take i).flatMap escC)) (tx.getD i 0)).2]))] ++ fz) := hD
            have hK : va_K (dC, dI) vwCl [(cB, .byte)] s := hK
            have hes : escC (tx.getD i 0) = [tx.getD i 0] := if_neg (fun h => h.elim h2 h3)
            rw [show (emt wt (emz wt q (34 :: (tx.take i).flatMap escC)) (tx.getD i 0)) = (emz wt q (34 :: (tx.take (i + 1)).flatMap escC)) from by rw [take_step 0 h1, List.flatMap_append, ← List.cons_append, emz_app, show [tx.getD i 0].flatMap escC = escC (tx.getD i 0) by simp, hes]; rfl] at hP hD
            have hP : va_P (dC, dI) vwCl ([(x, .inr (8, [.int wt, .int (emz wt q (34 :: (tx.take (i + 1)).flatMap escC)).1, .int (emz wt q (34 :: (tx.take (i + 1)).flatMap escC)).2]))] ++ fz) H := hP
            have hD : va_D A ([(x, .inr (8, [.int wt, .int (emz wt q (34 :: (tx.take (i + 1)).flatMap escC)).1, .int (emz wt q (34 :: (tx.take (i + 1)).flatMap escC)).2]))] ++ fz) := hD
            refine lv_iinc (k := 1) (v := ((nI i) + Int32.ofInt 1)) hx hb d_SC_spellString_45 hl rfl rfl (by decide) rfl (fun ls hl => ?_)
            have hl : lv_has ls 4 [(2, .int ((nI i) + Int32.ofInt 1)), (3, .int (nI (tx.getD i 0))), (0, .ref x), (1, .ref a)] := hl
            rw [show nI i + Int32.ofInt 1 = nI (i + 1) from nI_1 _] at hl
            refine lv_goto (tgt := 8) hx hb d_SC_spellString_48 rfl ?_
            exact ih (tx.length - (i + 1)) (by omega) (i + 1) H locs ls rfl (by omega) (lv_sub hl [0, 2, 3] rfl) (zz_pickP (pre := [(x, .inr (8, [.int wt, .int (emz wt q (34 :: (tx.take (i + 1)).flatMap escC)).1, .int (emz wt q (34 :: (tx.take (i + 1)).flatMap escC)).2]))]) (fz := fz) (wc := [(x, .inr (8, [.int wt, .int (emz wt q (34 :: (tx.take (i + 1)).flatMap escC)).1, .int (emz wt q (34 :: (tx.take (i + 1)).flatMap escC)).2]))]) hP [0] rfl) (zz_pickD (pre := [(x, .inr (8, [.int wt, .int (emz wt q (34 :: (tx.take (i + 1)).flatMap escC)).1, .int (emz wt q (34 :: (tx.take (i + 1)).flatMap escC)).2]))]) (fz := fz) (wc := [(x, .inr (8, [.int wt, .int (emz wt q (34 :: (tx.take (i + 1)).flatMap escC)).1, .int (emz wt q (34 :: (tx.take (i + 1)).flatMap escC)).2]))]) hD [0] (by decide) rfl) hS
          · have hq9 : tx.getD i 0 = 34 ∨ tx.getD i 0 = 92 := Or.inr ((nI_eq (by omega) (by decide)).mp h3)
            refine lv_aload_n hx hb d_SC_spellString_34 rfl (lv_at hl 2 rfl) ?_
            refine lv_bipush (v := 92) hx hb d_SC_spellString_35 (by decide) ?_
            have hPc := hP.sub (ws' := [(x, .inr (8, [.int wt, .int (emz wt q (34 :: (tx.take i).flatMap escC)).1, .int (emz wt q (34 :: (tx.take i).flatMap escC)).2]))]) [0] rfl
            have hDc := hD.sub (ws' := [(x, .inr (8, [.int wt, .int (emz wt q (34 :: (tx.take i).flatMap escC)).1, .int (emz wt q (34 :: (tx.take i).flatMap escC)).2]))]) [0] (by decide) rfl
            have hFc := va_free (wc := [(x, .inr (8, [.int wt, .int (emz wt q (34 :: (tx.take i).flatMap escC)).1, .int (emz wt q (34 :: (tx.take i).flatMap escC)).2]))]) hD hS hA [0] rfl
            have hKc := hK.sub (tys' := []) [] rfl
            refine va_callv (va_runV (As := [.int (nI 92)]) (rest := []) ⟨hx, hb, hml, hown, htb⟩ (k_SC_next l dC dI _ x wt (emz wt q (34 :: (tx.take i).flatMap escC)) 92 ) (cwV 1 htb (g_V (fun _ h => h) m_1084 m_1081 m_1083 m_1647 m_28) rfl rfl rfl (by decide +kernel) ⟨Nat.le_of_ble_eq_true rfl, Nat.le_of_ble_eq_true rfl⟩) ⟨fun a U g mk q => by obtain ⟨q0, q1, qP, qK, qD⟩ := q; exact ⟨q0, q1, qP, va_K.moved (u := U) (U := U.calling g mk a) (Vm.Alike.refl U.vm) qK, qD⟩, va_recv hK hP (ci := 8) rfl (q0 := 0) rfl, fun U hU hW => ⟨rfl, by rw [hU], by rw [hU]; exact hPc, va_K.moved hW.alike hKc, hDc.weaken (fun _ _ _ _ => trivial)⟩⟩ rfl rfl hl.1 rfl (lv_room (Nat.le_of_ble_eq_true rfl)) d_SC_spellString_37 ⟨Nat.le_of_ble_eq_true rfl, Nat.le_of_ble_eq_true rfl⟩) hS (fun q _ h => hFc q h) hFc (fun u9 t H1 locs ht hvm hw11 hB hz1 hk1 hS => ?_)
            obtain ⟨hP1, hK1, hD1⟩ := hB
            rw [ht] at hP1
            have hK1 := va_K.moved hvm.symm hK1
            have hw11 : True := hw11
            obtain ⟨hP, hD⟩ := zz_joinN (pre := [(x, .inr (8, [.int wt, .int (emz wt q (34 :: (tx.take i).flatMap escC)).1, .int (emz wt q (34 :: (tx.take i).flatMap escC)).2]))]) (fz := fz) (wc := [(x, .inr (8, [.int wt, .int (emz wt q (34 :: (tx.take i).flatMap escC)).1, .int (emz wt q (34 :: (tx.take i).flatMap escC)).2]))]) (wr := []) (w1 := [(x, .inr (8, [.int wt, .int (emt wt (emz wt q (34 :: (tx.take i).flatMap escC)) 92).1, .int (emt wt (emz wt q (34 :: (tx.take i).flatMap escC)) 92).2]))]) hP hD [0] [] rfl rfl (by decide) (by decide) hk1 hFc hP1 hD1
            have hK := (hK.sub (tys' := [(cB, .byte)]) [0] rfl).app hK1
            generalize H1 = H at hP hS ⊢
            have hP : va_P (dC, dI) vwCl ([(x, .inr (8, [.int wt, .int (emt wt (emz wt q (34 :: (tx.take i).flatMap escC)) 92).1, .int (emt wt (emz wt q (34 :: (tx.take i).flatMap escC)) 92).2]))] ++ fz) H := hP
            have hD : va_D A ([(x, .inr (8, [.int wt, .int (emt wt (emz wt q (34 :: (tx.take i).flatMap escC)) 92).1, .int (emt wt (emz wt q (34 :: (tx.take i).flatMap escC)) 92).2]))] ++ fz) := hD
            have hK : va_K (dC, dI) vwCl [(cB, .byte)] s := hK
            refine lv_aload_n hx hb d_SC_spellString_40 rfl (lv_at hl 2 rfl) ?_
            refine lv_iload_n hx hb d_SC_spellString_41 rfl (lv_at hl 0 rfl) ?_
            have hPc := hP.sub (ws' := [(x, .inr (8, [.int wt, .int (emt wt (emz wt q (34 :: (tx.take i).flatMap escC)) 92).1, .int (emt wt (emz wt q (34 :: (tx.take i).flatMap escC)) 92).2]))]) [0] rfl
            have hDc := hD.sub (ws' := [(x, .inr (8, [.int wt, .int (emt wt (emz wt q (34 :: (tx.take i).flatMap escC)) 92).1, .int (emt wt (emz wt q (34 :: (tx.take i).flatMap escC)) 92).2]))]) [0] (by decide) rfl
            have hFc := va_free (wc := [(x, .inr (8, [.int wt, .int (emt wt (emz wt q (34 :: (tx.take i).flatMap escC)) 92).1, .int (emt wt (emz wt q (34 :: (tx.take i).flatMap escC)) 92).2]))]) hD hS hA [0] rfl
            have hKc := hK.sub (tys' := []) [] rfl
            refine va_callv (va_runV (As := [.int (nI (tx.getD i 0))]) (rest := []) ⟨hx, hb, hml, hown, htb⟩ (k_SC_next l dC dI _ x wt (emt wt (emz wt q (34 :: (tx.take i).flatMap escC)) 92) (tx.getD i 0) ) (cwV 1 htb (g_V (fun _ h => h) m_1084 m_1081 m_1083 m_1647 m_28) rfl rfl rfl (by decide +kernel) ⟨Nat.le_of_ble_eq_true rfl, Nat.le_of_ble_eq_true rfl⟩) ⟨fun a U g mk q => by obtain ⟨q0, q1, qP, qK, qD⟩ := q; exact ⟨q0, q1, qP, va_K.moved (u := U) (U := U.calling g mk a) (Vm.Alike.refl U.vm) qK, qD⟩, va_recv hK hP (ci := 8) rfl (q0 := 0) rfl, fun U hU hW => ⟨rfl, by rw [hU], by rw [hU]; exact hPc, va_K.moved hW.alike hKc, hDc.weaken (fun _ _ _ _ => trivial)⟩⟩ rfl rfl hl.1 rfl (lv_room (Nat.le_of_ble_eq_true rfl)) d_SC_spellString_42 ⟨Nat.le_of_ble_eq_true rfl, Nat.le_of_ble_eq_true rfl⟩) hS (fun q _ h => hFc q h) hFc (fun u13 t H1 locs ht hvm hw15 hB hz1 hk1 hS => ?_)
            obtain ⟨hP1, hK1, hD1⟩ := hB
            rw [ht] at hP1
            have hK1 := va_K.moved hvm.symm hK1
            have hw15 : True := hw15
            obtain ⟨hP, hD⟩ := zz_joinN (pre := [(x, .inr (8, [.int wt, .int (emt wt (emz wt q (34 :: (tx.take i).flatMap escC)) 92).1, .int (emt wt (emz wt q (34 :: (tx.take i).flatMap escC)) 92).2]))]) (fz := fz) (wc := [(x, .inr (8, [.int wt, .int (emt wt (emz wt q (34 :: (tx.take i).flatMap escC)) 92).1, .int (emt wt (emz wt q (34 :: (tx.take i).flatMap escC)) 92).2]))]) (wr := []) (w1 := [(x, .inr (8, [.int wt, .int (emt wt (emt wt (emz wt q (34 :: (tx.take i).flatMap escC)) 92) (tx.getD i 0)).1, .int (emt wt (emt wt (emz wt q (34 :: (tx.take i).flatMap escC)) 92) (tx.getD i 0)).2]))]) hP hD [0] [] rfl rfl (by decide) (by decide) hk1 hFc hP1 hD1
            have hK := (hK.sub (tys' := [(cB, .byte)]) [0] rfl).app hK1
            generalize H1 = H at hP hS ⊢
            have hP : va_P (dC, dI) vwCl ([(x, .inr (8, [.int wt, .int (emt wt (emt wt (emz wt q (34 :: (tx.take i).flatMap escC)) 92) (tx.getD i 0)).1, .int (emt wt (emt wt (emz wt q (34 :: (tx.take i).flatMap escC)) 92) (tx.getD i 0)).2]))] ++ fz) H := hP
            have hD : va_D A ([(x, .inr (8, [.int wt, .int (emt wt (emt wt (emz wt q (34 :: (tx.take i).flatMap escC)) 92) (tx.getD i 0)).1, .int (emt wt (emt wt (emz wt q (34 :: (tx.take i).flatMap escC)) 92) (tx.getD i 0)).2]))] ++ fz) := hD
            have hK : va_K (dC, dI) vwCl [(cB, .byte)] s := hK
            have hes : escC (tx.getD i 0) = [92, tx.getD i 0] := if_pos hq9
            rw [show (emt wt (emt wt (emz wt q (34 :: (tx.take i).flatMap escC)) 92) (tx.getD i 0)) = (emz wt q (34 :: (tx.take (i + 1)).flatMap escC)) from by rw [take_step 0 h1, List.flatMap_append, ← List.cons_append, emz_app, show [tx.getD i 0].flatMap escC = escC (tx.getD i 0) by simp, hes]; rfl] at hP hD
            have hP : va_P (dC, dI) vwCl ([(x, .inr (8, [.int wt, .int (emz wt q (34 :: (tx.take (i + 1)).flatMap escC)).1, .int (emz wt q (34 :: (tx.take (i + 1)).flatMap escC)).2]))] ++ fz) H := hP
            have hD : va_D A ([(x, .inr (8, [.int wt, .int (emz wt q (34 :: (tx.take (i + 1)).flatMap escC)).1, .int (emz wt q (34 :: (tx.take (i + 1)).flatMap escC)).2]))] ++ fz) := hD
            refine lv_iinc (k := 1) (v := ((nI i) + Int32.ofInt 1)) hx hb d_SC_spellString_45 hl rfl rfl (by decide) rfl (fun ls hl => ?_)
            have hl : lv_has ls 4 [(2, .int ((nI i) + Int32.ofInt 1)), (3, .int (nI (tx.getD i 0))), (0, .ref x), (1, .ref a)] := hl
            rw [show nI i + Int32.ofInt 1 = nI (i + 1) from nI_1 _] at hl
            refine lv_goto (tgt := 8) hx hb d_SC_spellString_48 rfl ?_
            exact ih (tx.length - (i + 1)) (by omega) (i + 1) H locs ls rfl (by omega) (lv_sub hl [0, 2, 3] rfl) (zz_pickP (pre := [(x, .inr (8, [.int wt, .int (emz wt q (34 :: (tx.take (i + 1)).flatMap escC)).1, .int (emz wt q (34 :: (tx.take (i + 1)).flatMap escC)).2]))]) (fz := fz) (wc := [(x, .inr (8, [.int wt, .int (emz wt q (34 :: (tx.take (i + 1)).flatMap escC)).1, .int (emz wt q (34 :: (tx.take (i + 1)).flatMap escC)).2]))]) hP [0] rfl) (zz_pickD (pre := [(x, .inr (8, [.int wt, .int (emz wt q (34 :: (tx.take (i + 1)).flatMap escC)).1, .int (emz wt q (34 :: (tx.take (i + 1)).flatMap escC)).2]))]) (fz := fz) (wc := [(x, .inr (8, [.int wt, .int (emz wt q (34 :: (tx.take (i + 1)).flatMap escC)).1, .int (emz wt q (34 :: (tx.take (i + 1)).flatMap escC)).2]))]) hD [0] (by decide) rfl) hS
  exact hloop _ 0 _ _ ls rfl (Nat.zero_le _) (lv_sub hl [0, 1, 2] rfl) (zz_pickP (pre := [(x, .inr (8, [.int wt, .int (emz wt q (34 :: (tx.take 0).flatMap escC)).1, .int (emz wt q (34 :: (tx.take 0).flatMap escC)).2]))]) (fz := fz) (wc := [(x, .inr (8, [.int wt, .int (emz wt q (34 :: (tx.take 0).flatMap escC)).1, .int (emz wt q (34 :: (tx.take 0).flatMap escC)).2]))]) hP [0] rfl) (zz_pickD (pre := [(x, .inr (8, [.int wt, .int (emz wt q (34 :: (tx.take 0).flatMap escC)).1, .int (emz wt q (34 :: (tx.take 0).flatMap escC)).2]))]) (fz := fz) (wc := [(x, .inr (8, [.int wt, .int (emz wt q (34 :: (tx.take 0).flatMap escC)).1, .int (emz wt q (34 :: (tx.take 0).flatMap escC)).2]))]) hD [0] (by decide) rfl) hS
set_option maxHeartbeats 1000000 in
set_option maxRecDepth 100000 in
/-- spellParts -/
theorem k_SC_spellParts5 (l : Launch) (dC : Nat → ClassId) (dI : Nat → Nat → Nat) (sz : Nat) (d : Nat) (x : Nat) (wt : Int32) (q : Int32 × Int32) (a : Nat) (cB : ClassId) (cO : ClassId) (kd : Int32) (tx0 : Nat) (nu0 : Int64) (nm0 : Nat) (pa : Nat) (dp0 : Int32) (cn0 : Int32) (xs : List Nat) (ns : List (List Nat)) (rs : List (List Row)) (em : Nat) (aK : Nat → Nat) (aV : Nat → Nat) (fz : va_W) (hc : VAc a 3 tx0 nu0 nm0 pa dp0 cn0 ∈ fz) (hal : ALz cO em fz pa xs) (hns : ns.length = xs.length) (hrs : rs.length = xs.length) (hvl : ∀ i, i < xs.length → VT cB cO em aK d fz (xs.getD i 0) (ns.getD i []) (rs.getD i [])) (HS : C_SC_spell d) : Met l y_SC_spellParts ws_SC_spellParts ({ frames := (7 + 2 * d), cells := 0, slots := 0, locals := (180 + 60 * d) }) (va_Pc [.ref x, .ref a, .int 91, .int 93] (fun U => U.heap.size = sz ∧ va_P (dC, dI) vwCl ([(x, .inr (8, [.int wt, .int q.1, .int q.2]))] ++ fz) U.heap ∧ va_K (dC, dI) vwCl [(cB, .byte), (cO, .object "java/lang/Object")] U ∧ va_D (fun _ => True) ([(x, .inr (8, [.int wt, .int q.1, .int q.2]))] ++ fz) ∧ EX em aK aV (va_A ([(x, .inr (8, [.int wt, .int q.1, .int q.2]))] ++ fz) sz) U U.heap)) (va_Qv (fun (u : Unit) => True) (fun u t => va_P (dC, dI) vwCl ([(x, .inr (8, [.int wt, .int (emz wt q (91 :: (kT 5 false ns rs ++ [93]))).1, .int (emz wt q (91 :: (kT 5 false ns rs ++ [93]))).2]))] ++ fz) t.heap ∧ va_K (dC, dI) vwCl [(cB, .byte), (cO, .object "java/lang/Object")] t ∧ va_D (va_A ([(x, .inr (8, [.int wt, .int q.1, .int q.2]))] ++ fz) sz) ([(x, .inr (8, [.int wt, .int (emz wt q (91 :: (kT 5 false ns rs ++ [93]))).1, .int (emz wt q (91 :: (kT 5 false ns rs ++ [93]))).2]))] ++ fz)) (va_A ([(x, .inr (8, [.int wt, .int q.1, .int q.2]))] ++ fz) sz)) 0 0 (va_A ([(x, .inr (8, [.int wt, .int q.1, .int q.2]))] ++ fz) sz) := by
  refine Met.ofW (cc := c_SC_spellParts) (maxL := 6) (ret := none) (by decide) rfl ?_
  intro p e s m args below meth c s₁ B hml hv
  obtain ⟨hargs, hsz, hP, hK, hD0, hE⟩ := hv
  rw [show entryFrame m args 6 = entryFrame m ([.ref x, .ref a, .int 91, .int 93]).toArray 6 by rw [hargs]]
  have hx := B.exec
  have hb := B.bytes
  have hr := B.returns
  have hts := atoms_spec (ws := ws_SC_spellParts) B.pre
  have htb := fun w (h : w ∈ TBL) => hts w (List.mem_cons_of_mem _ h)
  have hown : s.vm.findClass R_SC = some m.cls := findClass_of_methodNamed B.named
  have hlocks := B.notSynchronized
  subst hsz
  have hD := hD0.self (sz := s.heap.size)
  generalize hAe : va_A ([(x, .inr (8, [.int wt, .int q.1, .int q.2]))] ++ fz) s.heap.size = A at hD hE ⊢
  have hA : ∀ q : Nat, s.heap.size ≤ q → A q := fun q h => by rw [← hAe]; exact Or.inr h
  have hS : va_S A s.heap s.heap [] := va_S.rf
  have hP : va_P (dC, dI) vwCl ([(x, .inr (8, [.int wt, .int q.1, .int q.2]))] ++ fz) s.heap := hP
  have hl := lv_entry ([.ref x, .ref a, .int 91, .int 93]) (n := 6) (Nat.le_of_ble_eq_true rfl)
  rw [lg_entry_eq]
  generalize (lg_sl ([.ref x, .ref a, .int 91, .int 93]) ++ List.replicate (6 - (lg_sl ([.ref x, .ref a, .int 91, .int 93])).length) Slot.unset).toArray = ls at hl ⊢
  have hl : lv_has ls 6 [(0, .ref x), (1, .ref a), (2, .int 91), (3, .int 93)] := hl
  refine zz_nQ (fun Q hQ => ?_)
  have h160 := hal.1
  refine lv_aload_n hx hb d_SC_spellParts_0 rfl (lv_at hl 0 rfl) ?_
  refine lv_iload_n hx hb d_SC_spellParts_1 rfl (lv_at hl 2 rfl) ?_
  have hPc := hP.sub (ws' := [(x, .inr (8, [.int wt, .int q.1, .int q.2]))]) [0] rfl
  have hDc := hD.sub (ws' := [(x, .inr (8, [.int wt, .int q.1, .int q.2]))]) [0] (by decide) rfl
  have hFc := va_free (wc := [(x, .inr (8, [.int wt, .int q.1, .int q.2]))]) hD hS hA [0] rfl
  have hKc := hK.sub (tys' := []) [] rfl
  refine va_callv (va_runV (As := [.int (nI 91)]) (rest := []) ⟨hx, hb, hml, hown, htb⟩ (k_SC_next l dC dI _ x wt q 91 ) (cwV 1 htb (g_V (fun _ h => h) m_1084 m_1081 m_1083 m_1647 m_28) rfl rfl rfl (by decide +kernel) ⟨(by show 1 ≤ (7 + 2 * d); omega), (by show 21 ≤ (180 + 60 * d); omega)⟩) ⟨fun a U g mk q => by obtain ⟨q0, q1, qP, qK, qD⟩ := q; exact ⟨q0, q1, qP, va_K.moved (u := U) (U := U.calling g mk a) (Vm.Alike.refl U.vm) qK, qD⟩, va_recv hK hP (ci := 8) rfl (q0 := 0) rfl, fun U hU hW => ⟨rfl, by rw [hU], by rw [hU]; exact hPc, va_K.moved hW.alike hKc, hDc.weaken (fun _ _ _ _ => trivial)⟩⟩ rfl rfl hl.1 rfl (lv_room (Nat.le_of_ble_eq_true rfl)) d_SC_spellParts_2 ⟨Nat.le_of_ble_eq_true rfl, Nat.le_of_ble_eq_true rfl⟩) hS (fun q _ h => hFc q h) hFc (fun u1 t H1 locs ht hvm hw3 hB hz1 hk1 hS => ?_)
  obtain ⟨hP1, hK1, hD1⟩ := hB
  rw [ht] at hP1
  have hK1 := va_K.moved hvm.symm hK1
  have hw3 : True := hw3
  obtain ⟨hP, hD⟩ := zz_joinN (pre := [(x, .inr (8, [.int wt, .int q.1, .int q.2]))]) (fz := fz) (wc := [(x, .inr (8, [.int wt, .int q.1, .int q.2]))]) (wr := []) (w1 := [(x, .inr (8, [.int wt, .int (emt wt q 91).1, .int (emt wt q 91).2]))]) hP hD [0] [] rfl rfl (by decide) (by decide) hk1 hFc hP1 hD1
  have hK := (hK.sub (tys' := [(cB, .byte), (cO, .object "java/lang/Object")]) [0, 1] rfl).app hK1
  generalize H1 = H at hP hS ⊢
  have hP : va_P (dC, dI) vwCl ([(x, .inr (8, [.int wt, .int (emt wt q 91).1, .int (emt wt q 91).2]))] ++ fz) H := hP
  have hD : va_D A ([(x, .inr (8, [.int wt, .int (emt wt q 91).1, .int (emt wt q 91).2]))] ++ fz) := hD
  have hK : va_K (dC, dI) vwCl [(cB, .byte), (cO, .object "java/lang/Object")] s := hK
  refine lv_iconst (v := 0) hx hb d_SC_spellParts_5 (by decide) ?_
  refine lv_istore hx hb d_SC_spellParts_6 hl (by decide) rfl (fun ls hl => ?_)
  have hl : lv_has ls 6 [(4, .int 0), (0, .ref x), (1, .ref a), (2, .int 91), (3, .int 93)] := hl
  rw [show (emt wt q 91) = (emz wt q (91 :: kT 5 false (ns.take 0) (rs.take 0))) from (rfl : emt wt q 91 = (emz wt q (91 :: kT 5 false (ns.take 0) (rs.take 0))))] at hP hD
  have hP : va_P (dC, dI) vwCl ([(x, .inr (8, [.int wt, .int (emz wt q (91 :: kT 5 false (ns.take 0) (rs.take 0))).1, .int (emz wt q (91 :: kT 5 false (ns.take 0) (rs.take 0))).2]))] ++ fz) H := hP
  have hD : va_D A ([(x, .inr (8, [.int wt, .int (emz wt q (91 :: kT 5 false (ns.take 0) (rs.take 0))).1, .int (emz wt q (91 :: kT 5 false (ns.take 0) (rs.take 0))).2]))] ++ fz) := hD
  have hloop : ∀ (k9 : Nat) (i : Nat) (H : Heap) (locs : List Loc) (ls : Array Slot), xs.length - i = k9 → (i ≤ xs.length) → lv_has ls 6 [(4, .int (nI i)), (0, .ref x), (1, .ref a), (2, .int 91), (3, .int 93)] → va_P (dC, dI) vwCl ([(x, .inr (8, [.int wt, .int (emz wt q (91 :: kT 5 false (ns.take i) (rs.take i))).1, .int (emz wt q (91 :: kT 5 false (ns.take i) (rs.take i))).2]))] ++ fz) H → va_D A ([(x, .inr (8, [.int wt, .int (emz wt q (91 :: kT 5 false (ns.take i) (rs.take i))).1, .int (emz wt q (91 :: kT 5 false (ns.take i) (rs.take i))).2]))] ++ fz) → va_S A s.heap H locs → W p l e (headSpec ws_SC_spellParts ({ frames := (7 + 2 * d), cells := 0, slots := 0, locals := (180 + 60 * d) })).room s m args below meth c H locs 0 0 Q (F0 m 8 ls []) := by
    intro k9
    induction k9 using Nat.strongRecOn with
    | ind k9 ih =>
      intro i H locs ls hk9 hi hl hP hD hS
      refine lv_iload hx hb d_SC_spellParts_8 (lv_at hl 0 rfl) ?_
      refine lv_aload_n hx hb d_SC_spellParts_10 rfl (lv_at hl 2 rfl) ?_
      obtain ⟨qz5, hz5⟩ := List.getElem?_of_mem (List.mem_append_right [(x, .inr (8, [.int wt, .int (emz wt q (91 :: kT 5 false (ns.take i) (rs.take i))).1, .int (emz wt q (91 :: kT 5 false (ns.take i) (rs.take i))).2]))] hc)
      refine va_get (D := (dC, dI)) (ci := 3) (v := .ref pa) (C := R_VA) (T := T_VA) (N := 7) hx hb htb in_VA hown hK hP qz5 hz5 rfl 4 (by decide) (htb _ m_395) (fun _ h9 => h9) rfl d_SC_spellParts_11 ?_
      have hPc : va_P (dC, dI) vwCl ([] ++ fz) _ := zz_tlP (pre := [(x, .inr (8, [.int wt, .int (emz wt q (91 :: kT 5 false (ns.take i) (rs.take i))).1, .int (emz wt q (91 :: kT 5 false (ns.take i) (rs.take i))).2]))]) (tl := fz) hP
      have hKc := hK.sub (tys' := []) [] rfl
      refine vp_callSi (W.runV (As := []) (rest := [.int (nI i)]) ⟨hx, hb, hml, hown, htb⟩ (z_AL_size l dC dI pa xs cO em fz hal) (cwV 0 htb (g_V (fun _ h => h) m_486 m_1091 m_484 m_485 m_8) rfl rfl rfl (by decide +kernel) ⟨(by show 1 ≤ (7 + 2 * d); omega), (by show 20 ≤ (180 + 60 * d); omega)⟩) ⟨fun a U g mk q => by obtain ⟨q0, qP, qK⟩ := q; exact ⟨q0, qP, va_K.moved (u := U) (U := U.calling g mk a) (Vm.Alike.refl U.vm) qK⟩, (hal).recv hK hP (fun q hq => List.mem_append_right _ hq), fun U hU hW => ⟨rfl, by rw [hU]; exact hPc, va_K.moved hW.alike hKc⟩⟩ rfl rfl hl.1 rfl (lv_room (Nat.le_of_ble_eq_true rfl)) d_SC_spellParts_14 ⟨Nat.le_of_ble_eq_true rfl, Nat.le_of_ble_eq_true rfl⟩) (fun r6 hw7 => ?_)
      have hw7 : r6 = nI xs.length := hw7
      obtain rfl := hw7
      refine lv_icmp_ge (tgt := 80) hx hb d_SC_spellParts_17 rfl (fun h1 => ?_) (fun h1 => ?_)
      · have h1 : xs.length ≤ i := (nI_leI (by omega) (by omega)).mp h1
        rw [List.take_of_length_le (show ns.length ≤ i by omega), List.take_of_length_le (show rs.length ≤ i by omega)] at hP hD
        have hP : va_P (dC, dI) vwCl ([(x, .inr (8, [.int wt, .int (emz wt q (91 :: kT 5 false ns rs)).1, .int (emz wt q (91 :: kT 5 false ns rs)).2]))] ++ fz) H := hP
        have hD : va_D A ([(x, .inr (8, [.int wt, .int (emz wt q (91 :: kT 5 false ns rs)).1, .int (emz wt q (91 :: kT 5 false ns rs)).2]))] ++ fz) := hD
        refine lv_aload_n hx hb d_SC_spellParts_80 rfl (lv_at hl 1 rfl) ?_
        refine lv_iload_n hx hb d_SC_spellParts_81 rfl (lv_at hl 4 rfl) ?_
        have hPc := hP.sub (ws' := [(x, .inr (8, [.int wt, .int (emz wt q (91 :: kT 5 false ns rs)).1, .int (emz wt q (91 :: kT 5 false ns rs)).2]))]) [0] rfl
        have hDc := hD.sub (ws' := [(x, .inr (8, [.int wt, .int (emz wt q (91 :: kT 5 false ns rs)).1, .int (emz wt q (91 :: kT 5 false ns rs)).2]))]) [0] (by decide) rfl
        have hFc := va_free (wc := [(x, .inr (8, [.int wt, .int (emz wt q (91 :: kT 5 false ns rs)).1, .int (emz wt q (91 :: kT 5 false ns rs)).2]))]) hD hS hA [0] rfl
        have hKc := hK.sub (tys' := []) [] rfl
        refine va_callv (va_runV (As := [.int (nI 93)]) (rest := []) ⟨hx, hb, hml, hown, htb⟩ (k_SC_next l dC dI _ x wt (emz wt q (91 :: kT 5 false ns rs)) 93 ) (cwV 1 htb (g_V (fun _ h => h) m_1084 m_1081 m_1083 m_1647 m_28) rfl rfl rfl (by decide +kernel) ⟨(by show 1 ≤ (7 + 2 * d); omega), (by show 21 ≤ (180 + 60 * d); omega)⟩) ⟨fun a U g mk q => by obtain ⟨q0, q1, qP, qK, qD⟩ := q; exact ⟨q0, q1, qP, va_K.moved (u := U) (U := U.calling g mk a) (Vm.Alike.refl U.vm) qK, qD⟩, va_recv hK hP (ci := 8) rfl (q0 := 0) rfl, fun U hU hW => ⟨rfl, by rw [hU], by rw [hU]; exact hPc, va_K.moved hW.alike hKc, hDc.weaken (fun _ _ _ _ => trivial)⟩⟩ rfl rfl hl.1 rfl (lv_room (Nat.le_of_ble_eq_true rfl)) d_SC_spellParts_82 ⟨Nat.le_of_ble_eq_true rfl, Nat.le_of_ble_eq_true rfl⟩) hS (fun q _ h => hFc q h) hFc (fun u8 t H1 locs ht hvm hw10 hB hz1 hk1 hS => ?_)
        obtain ⟨hP1, hK1, hD1⟩ := hB
        rw [ht] at hP1
        have hK1 := va_K.moved hvm.symm hK1
        have hw10 : True := hw10
        obtain ⟨hP, hD⟩ := zz_joinN (pre := [(x, .inr (8, [.int wt, .int (emz wt q (91 :: kT 5 false ns rs)).1, .int (emz wt q (91 :: kT 5 false ns rs)).2]))]) (fz := fz) (wc := [(x, .inr (8, [.int wt, .int (emz wt q (91 :: kT 5 false ns rs)).1, .int (emz wt q (91 :: kT 5 false ns rs)).2]))]) (wr := []) (w1 := [(x, .inr (8, [.int wt, .int (emt wt (emz wt q (91 :: kT 5 false ns rs)) 93).1, .int (emt wt (emz wt q (91 :: kT 5 false ns rs)) 93).2]))]) hP hD [0] [] rfl rfl (by decide) (by decide) hk1 hFc hP1 hD1
        have hK := (hK.sub (tys' := [(cB, .byte), (cO, .object "java/lang/Object")]) [0, 1] rfl).app hK1
        generalize H1 = H at hP hS ⊢
        have hP : va_P (dC, dI) vwCl ([(x, .inr (8, [.int wt, .int (emt wt (emz wt q (91 :: kT 5 false ns rs)) 93).1, .int (emt wt (emz wt q (91 :: kT 5 false ns rs)) 93).2]))] ++ fz) H := hP
        have hD : va_D A ([(x, .inr (8, [.int wt, .int (emt wt (emz wt q (91 :: kT 5 false ns rs)) 93).1, .int (emt wt (emz wt q (91 :: kT 5 false ns rs)) 93).2]))] ++ fz) := hD
        have hK : va_K (dC, dI) vwCl [(cB, .byte), (cO, .object "java/lang/Object")] s := hK
        rw [show (emt wt (emz wt q (91 :: kT 5 false ns rs)) 93) = (emz wt q (91 :: (kT 5 false ns rs ++ [93]))) from by rw [← emz_one (wt := wt), ← emz_app]; rfl] at hP hD
        have hP : va_P (dC, dI) vwCl ([(x, .inr (8, [.int wt, .int (emz wt q (91 :: (kT 5 false ns rs ++ [93]))).1, .int (emz wt q (91 :: (kT 5 false ns rs ++ [93]))).2]))] ++ fz) H := hP
        have hD : va_D A ([(x, .inr (8, [.int wt, .int (emz wt q (91 :: (kT 5 false ns rs ++ [93]))).1, .int (emz wt q (91 :: (kT 5 false ns rs ++ [93]))).2]))] ++ fz) := hD
        have hP9 := zz_pickP (pre := [(x, .inr (8, [.int wt, .int (emz wt q (91 :: (kT 5 false ns rs ++ [93]))).1, .int (emz wt q (91 :: (kT 5 false ns rs ++ [93]))).2]))]) (fz := fz) (wc := [(x, .inr (8, [.int wt, .int (emz wt q (91 :: (kT 5 false ns rs ++ [93]))).1, .int (emz wt q (91 :: (kT 5 false ns rs ++ [93]))).2]))]) hP [0] rfl
        have hD9 := zz_pickD (pre := [(x, .inr (8, [.int wt, .int (emz wt q (91 :: (kT 5 false ns rs ++ [93]))).1, .int (emz wt q (91 :: (kT 5 false ns rs ++ [93]))).2]))]) (fz := fz) (wc := [(x, .inr (8, [.int wt, .int (emz wt q (91 :: (kT 5 false ns rs ++ [93]))).1, .int (emz wt q (91 :: (kT 5 false ns rs ++ [93]))).2]))]) hD [0] (by decide) rfl
        have hK9 := hK.sub (tys' := [(cB, .byte), (cO, .object "java/lang/Object")]) [0, 1] rfl
        rw [hQ]
        refine W.widen (k := 0) (n := 0) (Nat.le_of_ble_eq_true rfl) (Nat.le_of_ble_eq_true rfl) ?_
        exact W.vret hx hb hr (fun t ht hW => ⟨⟨(), rfl, trivial, ⟨by rw [ht]; exact hP9, va_K.moved hW.alike hK9, hD9⟩⟩, hS.F ht⟩) hS.2.2 d_SC_spellParts_85
      · have h1 : i < xs.length := Nat.not_le.mp (fun h => h1 ((nI_leI (by omega) (by omega)).mpr h))
        have hvt := hvl i h1
        obtain ⟨kd2, tx2, nu2, nm2, pa2, dp2, cn2, hc2, hn2⟩ := hvt.cellN
        have hsn := kT_snoc 5 false (ns.take i) (rs.take i) (ns.getD i []) (rs.getD i []) (by rw [List.length_take, List.length_take]; omega)
        rw [← take_step [] (by omega), ← take_step [] (by omega)] at hsn
        refine lv_aload_n hx hb d_SC_spellParts_20 rfl (lv_at hl 2 rfl) ?_
        obtain ⟨qz8, hz8⟩ := List.getElem?_of_mem (List.mem_append_right [(x, .inr (8, [.int wt, .int (emz wt q (91 :: kT 5 false (ns.take i) (rs.take i))).1, .int (emz wt q (91 :: kT 5 false (ns.take i) (rs.take i))).2]))] hc)
        refine va_get (D := (dC, dI)) (ci := 3) (v := .ref pa) (C := R_VA) (T := T_VA) (N := 7) hx hb htb in_VA hown hK hP qz8 hz8 rfl 4 (by decide) (htb _ m_395) (fun _ h9 => h9) rfl d_SC_spellParts_21 ?_
        refine lv_iload hx hb d_SC_spellParts_24 (lv_at hl 0 rfl) ?_
        have hPc : va_P (dC, dI) vwCl ([] ++ fz) _ := zz_tlP (pre := [(x, .inr (8, [.int wt, .int (emz wt q (91 :: kT 5 false (ns.take i) (rs.take i))).1, .int (emz wt q (91 :: kT 5 false (ns.take i) (rs.take i))).2]))]) (tl := fz) hP
        have hKc := hK.sub (tys' := [(cO, .object "java/lang/Object")]) [1] rfl
        refine va_csq (W.runV (As := [.int (nI i)]) (rest := []) ⟨hx, hb, hml, hown, htb⟩ (z_AL_get l dC dI pa xs cO em i fz hal h1) (cwV 1 htb (g_V (fun _ h => h) m_490 m_1092 m_488 m_489 m_8) rfl rfl rfl (by decide +kernel) ⟨(by show 3 ≤ (7 + 2 * d); omega), (by show 64 ≤ (180 + 60 * d); omega)⟩) ⟨fun a U g mk q => by obtain ⟨q0, qP, qK⟩ := q; exact ⟨q0, qP, va_K.moved (u := U) (U := U.calling g mk a) (Vm.Alike.refl U.vm) qK⟩, (hal).recv hK hP (fun q hq => List.mem_append_right _ hq), fun U hU hW => ⟨rfl, by rw [hU]; exact hPc, va_K.moved hW.alike hKc⟩⟩ rfl rfl hl.1 rfl (lv_room (Nat.le_of_ble_eq_true rfl)) d_SC_spellParts_26 ⟨Nat.le_of_ble_eq_true rfl, Nat.le_of_ble_eq_true rfl⟩) (fun r9 hw10 => ?_)
        have hw10 : r9 = some (xs.getD i 0) := hw10
        obtain rfl := hw10
        refine W.eq (g2 := F0 m 29 ls [.ref (xs.getD i 0)]) rfl ?_
        refine va_castY (C := "PatchStore$Value") hx hb hown (htb _ m_1093) (nw_14 hE) (zz_recv hK hP (ci := 3) rfl (List.mem_append_right _ hc2)) d_SC_spellParts_29 ?_
        refine lv_astore hx hb d_SC_spellParts_32 hl (by decide) rfl (fun ls hl => ?_)
        have hl : lv_has ls 6 [(5, .ref (xs.getD i 0)), (4, .int (nI i)), (0, .ref x), (1, .ref a), (2, .int 91), (3, .int 93)] := hl
        refine lv_iload hx hb d_SC_spellParts_34 (lv_at hl 1 rfl) ?_
        refine lv_if_le (tgt := 45) hx hb d_SC_spellParts_36 rfl (fun h2 => ?_) (fun h2 => ?_)
        · have hi0 : i = 0 := Nat.le_zero.mp ((nI_leI (by omega) (by decide)).mp h2)
          refine lv_aload_n hx hb d_SC_spellParts_45 rfl (lv_at hl 3 rfl) ?_
          obtain ⟨qz11, hz11⟩ := List.getElem?_of_mem (List.mem_append_right [(x, .inr (8, [.int wt, .int (emz wt q (91 :: kT 5 false (ns.take i) (rs.take i))).1, .int (emz wt q (91 :: kT 5 false (ns.take i) (rs.take i))).2]))] hc)
          refine va_get (D := (dC, dI)) (ci := 3) (v := .int 3) (C := R_VA) (T := T_VA) (N := 7) hx hb htb in_VA hown hK hP qz11 hz11 rfl 0 (by decide) (htb _ m_380) (fun _ h9 => h9) rfl d_SC_spellParts_46 ?_
          refine lv_iconst (v := 4) hx hb d_SC_spellParts_49 (by decide) ?_
          refine lv_icmp_ne (tgt := 68) hx hb d_SC_spellParts_50 rfl (fun _ => ?_) (fun h9 => absurd h9 (by decide))
          refine lv_aload_n hx hb d_SC_spellParts_68 rfl (lv_at hl 2 rfl) ?_
          refine lv_aload hx hb d_SC_spellParts_69 (lv_at hl 0 rfl) ?_
          have hPc := zz_pickP (pre := [(x, .inr (8, [.int wt, .int (emz wt q (91 :: kT 5 false (ns.take i) (rs.take i))).1, .int (emz wt q (91 :: kT 5 false (ns.take i) (rs.take i))).2]))]) (fz := fz) (wc := [(x, .inr (8, [.int wt, .int (emz wt q (91 :: kT 5 false (ns.take i) (rs.take i))).1, .int (emz wt q (91 :: kT 5 false (ns.take i) (rs.take i))).2]))]) hP [0] rfl
          have hDc := zz_pickD (pre := [(x, .inr (8, [.int wt, .int (emz wt q (91 :: kT 5 false (ns.take i) (rs.take i))).1, .int (emz wt q (91 :: kT 5 false (ns.take i) (rs.take i))).2]))]) (fz := fz) (wc := [(x, .inr (8, [.int wt, .int (emz wt q (91 :: kT 5 false (ns.take i) (rs.take i))).1, .int (emz wt q (91 :: kT 5 false (ns.take i) (rs.take i))).2]))]) hD [0] (by decide) rfl
          have hFc := zz_free (pre := [(x, .inr (8, [.int wt, .int (emz wt q (91 :: kT 5 false (ns.take i) (rs.take i))).1, .int (emz wt q (91 :: kT 5 false (ns.take i) (rs.take i))).2]))]) (fz := fz) (wc := [(x, .inr (8, [.int wt, .int (emz wt q (91 :: kT 5 false (ns.take i) (rs.take i))).1, .int (emz wt q (91 :: kT 5 false (ns.take i) (rs.take i))).2]))]) hD hS hA [0] rfl
          have hKc := hK.sub (tys' := [(cB, .byte), (cO, .object "java/lang/Object")]) [0, 1] rfl
          refine va_callv (va_runV (As := [.ref (xs.getD i 0)]) (rest := []) ⟨hx, hb, hml, hown, htb⟩ (HS l dC dI _ x wt (emz wt q (91 :: kT 5 false (ns.take i) (rs.take i))) (xs.getD i 0) (ns.getD i []) (rs.getD i []) cB cO em aK aV fz hvt) (cwV 1 htb (g_V (fun _ h => h) m_1076 m_1094 m_1075 m_1645 m_28) rfl rfl rfl (by decide +kernel) ⟨(by show ((6 + 2 * d) + 1) ≤ (7 + 2 * d); omega), (by show (22 + (150 + 60 * d)) ≤ (180 + 60 * d); omega)⟩) ⟨fun a U g mk q => by obtain ⟨q0, q1, qP, qK, qD, z0⟩ := q; exact ⟨q0, q1, qP, va_K.moved (u := U) (U := U.calling g mk a) (Vm.Alike.refl U.vm) qK, qD, EX.same (U := U) (U' := U.calling g mk a) rfl z0⟩, va_recv hK hP (ci := 8) rfl (q0 := 0) rfl, fun U hU hW => ⟨rfl, by rw [hU], by rw [hU]; exact hPc, va_K.moved hW.alike hKc, hDc.weaken (fun _ _ _ _ => trivial), by rw [hU]; exact EX.warm hW ((hE.kept (fun a h1 h2 => hS.2.1 a h1 h2)).narrow hFc)⟩⟩ rfl rfl hl.1 rfl (lv_room (Nat.le_of_ble_eq_true rfl)) d_SC_spellParts_71 ⟨Nat.le_of_ble_eq_true rfl, Nat.le_of_ble_eq_true rfl⟩) hS (fun q _ h => hFc q h) hFc (fun u12 t H1 locs ht hvm hw14 hB hz1 hk1 hS => ?_)
          obtain ⟨hP1, hK1, hD1⟩ := hB
          rw [ht] at hP1
          have hK1 := va_K.moved hvm.symm hK1
          have hw14 : True := hw14
          obtain ⟨hP, hD⟩ := zz_join (pre := [(x, .inr (8, [.int wt, .int (emz wt q (91 :: kT 5 false (ns.take i) (rs.take i))).1, .int (emz wt q (91 :: kT 5 false (ns.take i) (rs.take i))).2]))]) (fz := fz) (wc := [(x, .inr (8, [.int wt, .int (emz wt q (91 :: kT 5 false (ns.take i) (rs.take i))).1, .int (emz wt q (91 :: kT 5 false (ns.take i) (rs.take i))).2]))]) (wr := []) (w1 := ([(x, .inr (8, [.int wt, .int (emz wt (emz wt q (91 :: kT 5 false (ns.take i) (rs.take i))) (txt (rs.getD i []))).1, .int (emz wt (emz wt q (91 :: kT 5 false (ns.take i) (rs.take i))) (txt (rs.getD i []))).2]))] ++ fz)) hP hD [0] [] rfl rfl (by decide) (by decide) hk1 hFc hP1 hD1
          have hK := (hK.sub (tys' := []) [] rfl).app hK1
          generalize H1 = H at hP hS ⊢
          have hP : va_P (dC, dI) vwCl ([(x, .inr (8, [.int wt, .int (emz wt (emz wt q (91 :: kT 5 false (ns.take i) (rs.take i))) (txt (rs.getD i []))).1, .int (emz wt (emz wt q (91 :: kT 5 false (ns.take i) (rs.take i))) (txt (rs.getD i []))).2]))] ++ fz) H := hP
          have hD : va_D A ([(x, .inr (8, [.int wt, .int (emz wt (emz wt q (91 :: kT 5 false (ns.take i) (rs.take i))) (txt (rs.getD i []))).1, .int (emz wt (emz wt q (91 :: kT 5 false (ns.take i) (rs.take i))) (txt (rs.getD i []))).2]))] ++ fz) := hD
          have hK : va_K (dC, dI) vwCl [(cB, .byte), (cO, .object "java/lang/Object")] s := hK
          have hsn9 : kT 5 false (ns.take (i + 1)) (rs.take (i + 1)) = kT 5 false (ns.take i) (rs.take i) ++ ([] ++ ([] ++ txt (rs.getD i []))) := by rw [hsn, show (false || !(rs.take i).isEmpty) = false by rw [hi0]; rfl]; rfl
          rw [show (emz wt (emz wt q (91 :: kT 5 false (ns.take i) (rs.take i))) (txt (rs.getD i []))) = (emz wt q (91 :: kT 5 false (ns.take (i + 1)) (rs.take (i + 1)))) from by rw [hsn9, ← List.cons_append, emz_app]; simp only [emz, List.foldl_append, List.foldl_cons, List.foldl_nil]] at hP hD
          have hP : va_P (dC, dI) vwCl ([(x, .inr (8, [.int wt, .int (emz wt q (91 :: kT 5 false (ns.take (i + 1)) (rs.take (i + 1)))).1, .int (emz wt q (91 :: kT 5 false (ns.take (i + 1)) (rs.take (i + 1)))).2]))] ++ fz) H := hP
          have hD : va_D A ([(x, .inr (8, [.int wt, .int (emz wt q (91 :: kT 5 false (ns.take (i + 1)) (rs.take (i + 1)))).1, .int (emz wt q (91 :: kT 5 false (ns.take (i + 1)) (rs.take (i + 1)))).2]))] ++ fz) := hD
          refine lv_iinc (k := 1) (v := ((nI i) + Int32.ofInt 1)) hx hb d_SC_spellParts_74 hl rfl rfl (by decide) rfl (fun ls hl => ?_)
          have hl : lv_has ls 6 [(4, .int ((nI i) + Int32.ofInt 1)), (5, .ref (xs.getD i 0)), (0, .ref x), (1, .ref a), (2, .int 91), (3, .int 93)] := hl
          rw [show nI i + Int32.ofInt 1 = nI (i + 1) from nI_1 _] at hl
          refine lv_goto (tgt := 8) hx hb d_SC_spellParts_77 rfl ?_
          exact ih (xs.length - (i + 1)) (by omega) (i + 1) H locs ls rfl (by omega) (lv_sub hl [0, 2, 3, 4, 5] rfl) (zz_pickP (pre := [(x, .inr (8, [.int wt, .int (emz wt q (91 :: kT 5 false (ns.take (i + 1)) (rs.take (i + 1)))).1, .int (emz wt q (91 :: kT 5 false (ns.take (i + 1)) (rs.take (i + 1)))).2]))]) (fz := fz) (wc := [(x, .inr (8, [.int wt, .int (emz wt q (91 :: kT 5 false (ns.take (i + 1)) (rs.take (i + 1)))).1, .int (emz wt q (91 :: kT 5 false (ns.take (i + 1)) (rs.take (i + 1)))).2]))]) hP [0] rfl) (zz_pickD (pre := [(x, .inr (8, [.int wt, .int (emz wt q (91 :: kT 5 false (ns.take (i + 1)) (rs.take (i + 1)))).1, .int (emz wt q (91 :: kT 5 false (ns.take (i + 1)) (rs.take (i + 1)))).2]))]) (fz := fz) (wc := [(x, .inr (8, [.int wt, .int (emz wt q (91 :: kT 5 false (ns.take (i + 1)) (rs.take (i + 1)))).1, .int (emz wt q (91 :: kT 5 false (ns.take (i + 1)) (rs.take (i + 1)))).2]))]) hD [0] (by decide) rfl) hS
        · have hi0 : ¬ i = 0 := fun h => h2 (by rw [h]; decide)
          refine lv_aload_n hx hb d_SC_spellParts_39 rfl (lv_at hl 2 rfl) ?_
          refine lv_bipush (v := 44) hx hb d_SC_spellParts_40 (by decide) ?_
          have hPc := hP.sub (ws' := [(x, .inr (8, [.int wt, .int (emz wt q (91 :: kT 5 false (ns.take i) (rs.take i))).1, .int (emz wt q (91 :: kT 5 false (ns.take i) (rs.take i))).2]))]) [0] rfl
          have hDc := hD.sub (ws' := [(x, .inr (8, [.int wt, .int (emz wt q (91 :: kT 5 false (ns.take i) (rs.take i))).1, .int (emz wt q (91 :: kT 5 false (ns.take i) (rs.take i))).2]))]) [0] (by decide) rfl
          have hFc := va_free (wc := [(x, .inr (8, [.int wt, .int (emz wt q (91 :: kT 5 false (ns.take i) (rs.take i))).1, .int (emz wt q (91 :: kT 5 false (ns.take i) (rs.take i))).2]))]) hD hS hA [0] rfl
          have hKc := hK.sub (tys' := []) [] rfl
          refine va_callv (va_runV (As := [.int (nI 44)]) (rest := []) ⟨hx, hb, hml, hown, htb⟩ (k_SC_next l dC dI _ x wt (emz wt q (91 :: kT 5 false (ns.take i) (rs.take i))) 44 ) (cwV 1 htb (g_V (fun _ h => h) m_1084 m_1081 m_1083 m_1647 m_28) rfl rfl rfl (by decide +kernel) ⟨(by show 1 ≤ (7 + 2 * d); omega), (by show 21 ≤ (180 + 60 * d); omega)⟩) ⟨fun a U g mk q => by obtain ⟨q0, q1, qP, qK, qD⟩ := q; exact ⟨q0, q1, qP, va_K.moved (u := U) (U := U.calling g mk a) (Vm.Alike.refl U.vm) qK, qD⟩, va_recv hK hP (ci := 8) rfl (q0 := 0) rfl, fun U hU hW => ⟨rfl, by rw [hU], by rw [hU]; exact hPc, va_K.moved hW.alike hKc, hDc.weaken (fun _ _ _ _ => trivial)⟩⟩ rfl rfl hl.1 rfl (lv_room (Nat.le_of_ble_eq_true rfl)) d_SC_spellParts_42 ⟨Nat.le_of_ble_eq_true rfl, Nat.le_of_ble_eq_true rfl⟩) hS (fun q _ h => hFc q h) hFc (fun u11 t H1 locs ht hvm hw13 hB hz1 hk1 hS => ?_)
          obtain ⟨hP1, hK1, hD1⟩ := hB
          rw [ht] at hP1
          have hK1 := va_K.moved hvm.symm hK1
          have hw13 : True := hw13
          obtain ⟨hP, hD⟩ := zz_joinN (pre := [(x, .inr (8, [.int wt, .int (emz wt q (91 :: kT 5 false (ns.take i) (rs.take i))).1, .int (emz wt q (91 :: kT 5 false (ns.take i) (rs.take i))).2]))]) (fz := fz) (wc := [(x, .inr (8, [.int wt, .int (emz wt q (91 :: kT 5 false (ns.take i) (rs.take i))).1, .int (emz wt q (91 :: kT 5 false (ns.take i) (rs.take i))).2]))]) (wr := []) (w1 := [(x, .inr (8, [.int wt, .int (emt wt (emz wt q (91 :: kT 5 false (ns.take i) (rs.take i))) 44).1, .int (emt wt (emz wt q (91 :: kT 5 false (ns.take i) (rs.take i))) 44).2]))]) hP hD [0] [] rfl rfl (by decide) (by decide) hk1 hFc hP1 hD1
          have hK := (hK.sub (tys' := [(cB, .byte), (cO, .object "java/lang/Object")]) [0, 1] rfl).app hK1
          generalize H1 = H at hP hS ⊢
          have hP : va_P (dC, dI) vwCl ([(x, .inr (8, [.int wt, .int (emt wt (emz wt q (91 :: kT 5 false (ns.take i) (rs.take i))) 44).1, .int (emt wt (emz wt q (91 :: kT 5 false (ns.take i) (rs.take i))) 44).2]))] ++ fz) H := hP
          have hD : va_D A ([(x, .inr (8, [.int wt, .int (emt wt (emz wt q (91 :: kT 5 false (ns.take i) (rs.take i))) 44).1, .int (emt wt (emz wt q (91 :: kT 5 false (ns.take i) (rs.take i))) 44).2]))] ++ fz) := hD
          have hK : va_K (dC, dI) vwCl [(cB, .byte), (cO, .object "java/lang/Object")] s := hK
          refine lv_aload_n hx hb d_SC_spellParts_45 rfl (lv_at hl 3 rfl) ?_
          obtain ⟨qz15, hz15⟩ := List.getElem?_of_mem (List.mem_append_right [(x, .inr (8, [.int wt, .int (emt wt (emz wt q (91 :: kT 5 false (ns.take i) (rs.take i))) 44).1, .int (emt wt (emz wt q (91 :: kT 5 false (ns.take i) (rs.take i))) 44).2]))] hc)
          refine va_get (D := (dC, dI)) (ci := 3) (v := .int 3) (C := R_VA) (T := T_VA) (N := 7) hx hb htb in_VA hown hK hP qz15 hz15 rfl 0 (by decide) (htb _ m_380) (fun _ h9 => h9) rfl d_SC_spellParts_46 ?_
          refine lv_iconst (v := 4) hx hb d_SC_spellParts_49 (by decide) ?_
          refine lv_icmp_ne (tgt := 68) hx hb d_SC_spellParts_50 rfl (fun _ => ?_) (fun h9 => absurd h9 (by decide))
          refine lv_aload_n hx hb d_SC_spellParts_68 rfl (lv_at hl 2 rfl) ?_
          refine lv_aload hx hb d_SC_spellParts_69 (lv_at hl 0 rfl) ?_
          have hPc := zz_pickP (pre := [(x, .inr (8, [.int wt, .int (emt wt (emz wt q (91 :: kT 5 false (ns.take i) (rs.take i))) 44).1, .int (emt wt (emz wt q (91 :: kT 5 false (ns.take i) (rs.take i))) 44).2]))]) (fz := fz) (wc := [(x, .inr (8, [.int wt, .int (emt wt (emz wt q (91 :: kT 5 false (ns.take i) (rs.take i))) 44).1, .int (emt wt (emz wt q (91 :: kT 5 false (ns.take i) (rs.take i))) 44).2]))]) hP [0] rfl
          have hDc := zz_pickD (pre := [(x, .inr (8, [.int wt, .int (emt wt (emz wt q (91 :: kT 5 false (ns.take i) (rs.take i))) 44).1, .int (emt wt (emz wt q (91 :: kT 5 false (ns.take i) (rs.take i))) 44).2]))]) (fz := fz) (wc := [(x, .inr (8, [.int wt, .int (emt wt (emz wt q (91 :: kT 5 false (ns.take i) (rs.take i))) 44).1, .int (emt wt (emz wt q (91 :: kT 5 false (ns.take i) (rs.take i))) 44).2]))]) hD [0] (by decide) rfl
          have hFc := zz_free (pre := [(x, .inr (8, [.int wt, .int (emt wt (emz wt q (91 :: kT 5 false (ns.take i) (rs.take i))) 44).1, .int (emt wt (emz wt q (91 :: kT 5 false (ns.take i) (rs.take i))) 44).2]))]) (fz := fz) (wc := [(x, .inr (8, [.int wt, .int (emt wt (emz wt q (91 :: kT 5 false (ns.take i) (rs.take i))) 44).1, .int (emt wt (emz wt q (91 :: kT 5 false (ns.take i) (rs.take i))) 44).2]))]) hD hS hA [0] rfl
          have hKc := hK.sub (tys' := [(cB, .byte), (cO, .object "java/lang/Object")]) [0, 1] rfl
          refine va_callv (va_runV (As := [.ref (xs.getD i 0)]) (rest := []) ⟨hx, hb, hml, hown, htb⟩ (HS l dC dI _ x wt (emt wt (emz wt q (91 :: kT 5 false (ns.take i) (rs.take i))) 44) (xs.getD i 0) (ns.getD i []) (rs.getD i []) cB cO em aK aV fz hvt) (cwV 1 htb (g_V (fun _ h => h) m_1076 m_1094 m_1075 m_1645 m_28) rfl rfl rfl (by decide +kernel) ⟨(by show ((6 + 2 * d) + 1) ≤ (7 + 2 * d); omega), (by show (22 + (150 + 60 * d)) ≤ (180 + 60 * d); omega)⟩) ⟨fun a U g mk q => by obtain ⟨q0, q1, qP, qK, qD, z0⟩ := q; exact ⟨q0, q1, qP, va_K.moved (u := U) (U := U.calling g mk a) (Vm.Alike.refl U.vm) qK, qD, EX.same (U := U) (U' := U.calling g mk a) rfl z0⟩, va_recv hK hP (ci := 8) rfl (q0 := 0) rfl, fun U hU hW => ⟨rfl, by rw [hU], by rw [hU]; exact hPc, va_K.moved hW.alike hKc, hDc.weaken (fun _ _ _ _ => trivial), by rw [hU]; exact EX.warm hW ((hE.kept (fun a h1 h2 => hS.2.1 a h1 h2)).narrow hFc)⟩⟩ rfl rfl hl.1 rfl (lv_room (Nat.le_of_ble_eq_true rfl)) d_SC_spellParts_71 ⟨Nat.le_of_ble_eq_true rfl, Nat.le_of_ble_eq_true rfl⟩) hS (fun q _ h => hFc q h) hFc (fun u16 t H1 locs ht hvm hw18 hB hz1 hk1 hS => ?_)
          obtain ⟨hP1, hK1, hD1⟩ := hB
          rw [ht] at hP1
          have hK1 := va_K.moved hvm.symm hK1
          have hw18 : True := hw18
          obtain ⟨hP, hD⟩ := zz_join (pre := [(x, .inr (8, [.int wt, .int (emt wt (emz wt q (91 :: kT 5 false (ns.take i) (rs.take i))) 44).1, .int (emt wt (emz wt q (91 :: kT 5 false (ns.take i) (rs.take i))) 44).2]))]) (fz := fz) (wc := [(x, .inr (8, [.int wt, .int (emt wt (emz wt q (91 :: kT 5 false (ns.take i) (rs.take i))) 44).1, .int (emt wt (emz wt q (91 :: kT 5 false (ns.take i) (rs.take i))) 44).2]))]) (wr := []) (w1 := ([(x, .inr (8, [.int wt, .int (emz wt (emt wt (emz wt q (91 :: kT 5 false (ns.take i) (rs.take i))) 44) (txt (rs.getD i []))).1, .int (emz wt (emt wt (emz wt q (91 :: kT 5 false (ns.take i) (rs.take i))) 44) (txt (rs.getD i []))).2]))] ++ fz)) hP hD [0] [] rfl rfl (by decide) (by decide) hk1 hFc hP1 hD1
          have hK := (hK.sub (tys' := []) [] rfl).app hK1
          generalize H1 = H at hP hS ⊢
          have hP : va_P (dC, dI) vwCl ([(x, .inr (8, [.int wt, .int (emz wt (emt wt (emz wt q (91 :: kT 5 false (ns.take i) (rs.take i))) 44) (txt (rs.getD i []))).1, .int (emz wt (emt wt (emz wt q (91 :: kT 5 false (ns.take i) (rs.take i))) 44) (txt (rs.getD i []))).2]))] ++ fz) H := hP
          have hD : va_D A ([(x, .inr (8, [.int wt, .int (emz wt (emt wt (emz wt q (91 :: kT 5 false (ns.take i) (rs.take i))) 44) (txt (rs.getD i []))).1, .int (emz wt (emt wt (emz wt q (91 :: kT 5 false (ns.take i) (rs.take i))) 44) (txt (rs.getD i []))).2]))] ++ fz) := hD
          have hK : va_K (dC, dI) vwCl [(cB, .byte), (cO, .object "java/lang/Object")] s := hK
          have hsn9 : kT 5 false (ns.take (i + 1)) (rs.take (i + 1)) = kT 5 false (ns.take i) (rs.take i) ++ ([44] ++ ([] ++ txt (rs.getD i []))) := by rw [hsn, show (false || !(rs.take i).isEmpty) = true by rw [take_ne hi0 (by omega)]; rfl]; rfl
          rw [show (emz wt (emt wt (emz wt q (91 :: kT 5 false (ns.take i) (rs.take i))) 44) (txt (rs.getD i []))) = (emz wt q (91 :: kT 5 false (ns.take (i + 1)) (rs.take (i + 1)))) from by rw [hsn9, ← List.cons_append, emz_app]; simp only [emz, List.foldl_append, List.foldl_cons, List.foldl_nil]] at hP hD
          have hP : va_P (dC, dI) vwCl ([(x, .inr (8, [.int wt, .int (emz wt q (91 :: kT 5 false (ns.take (i + 1)) (rs.take (i + 1)))).1, .int (emz wt q (91 :: kT 5 false (ns.take (i + 1)) (rs.take (i + 1)))).2]))] ++ fz) H := hP
          have hD : va_D A ([(x, .inr (8, [.int wt, .int (emz wt q (91 :: kT 5 false (ns.take (i + 1)) (rs.take (i + 1)))).1, .int (emz wt q (91 :: kT 5 false (ns.take (i + 1)) (rs.take (i + 1)))).2]))] ++ fz) := hD
          refine lv_iinc (k := 1) (v := ((nI i) + Int32.ofInt 1)) hx hb d_SC_spellParts_74 hl rfl rfl (by decide) rfl (fun ls hl => ?_)
          have hl : lv_has ls 6 [(4, .int ((nI i) + Int32.ofInt 1)), (5, .ref (xs.getD i 0)), (0, .ref x), (1, .ref a), (2, .int 91), (3, .int 93)] := hl
          rw [show nI i + Int32.ofInt 1 = nI (i + 1) from nI_1 _] at hl
          refine lv_goto (tgt := 8) hx hb d_SC_spellParts_77 rfl ?_
          exact ih (xs.length - (i + 1)) (by omega) (i + 1) H locs ls rfl (by omega) (lv_sub hl [0, 2, 3, 4, 5] rfl) (zz_pickP (pre := [(x, .inr (8, [.int wt, .int (emz wt q (91 :: kT 5 false (ns.take (i + 1)) (rs.take (i + 1)))).1, .int (emz wt q (91 :: kT 5 false (ns.take (i + 1)) (rs.take (i + 1)))).2]))]) (fz := fz) (wc := [(x, .inr (8, [.int wt, .int (emz wt q (91 :: kT 5 false (ns.take (i + 1)) (rs.take (i + 1)))).1, .int (emz wt q (91 :: kT 5 false (ns.take (i + 1)) (rs.take (i + 1)))).2]))]) hP [0] rfl) (zz_pickD (pre := [(x, .inr (8, [.int wt, .int (emz wt q (91 :: kT 5 false (ns.take (i + 1)) (rs.take (i + 1)))).1, .int (emz wt q (91 :: kT 5 false (ns.take (i + 1)) (rs.take (i + 1)))).2]))]) (fz := fz) (wc := [(x, .inr (8, [.int wt, .int (emz wt q (91 :: kT 5 false (ns.take (i + 1)) (rs.take (i + 1)))).1, .int (emz wt q (91 :: kT 5 false (ns.take (i + 1)) (rs.take (i + 1)))).2]))]) hD [0] (by decide) rfl) hS
  exact hloop _ 0 _ _ ls rfl (Nat.zero_le _) (lv_sub hl [0, 1, 2, 3, 4] rfl) (zz_pickP (pre := [(x, .inr (8, [.int wt, .int (emz wt q (91 :: kT 5 false (ns.take 0) (rs.take 0))).1, .int (emz wt q (91 :: kT 5 false (ns.take 0) (rs.take 0))).2]))]) (fz := fz) (wc := [(x, .inr (8, [.int wt, .int (emz wt q (91 :: kT 5 false (ns.take 0) (rs.take 0))).1, .int (emz wt q (91 :: kT 5 false (ns.take 0) (rs.take 0))).2]))]) hP [0] rfl) (zz_pickD (pre := [(x, .inr (8, [.int wt, .int (emz wt q (91 :: kT 5 false (ns.take 0) (rs.take 0))).1, .int (emz wt q (91 :: kT 5 false (ns.take 0) (rs.take 0))).2]))]) (fz := fz) (wc := [(x, .inr (8, [.int wt, .int (emz wt q (91 :: kT 5 false (ns.take 0) (rs.take 0))).1, .int (emz wt q (91 :: kT 5 false (ns.take 0) (rs.take 0))).2]))]) hD [0] (by decide) rfl) hS
set_option maxHeartbeats 1000000 in
set_option maxRecDepth 100000 in
/-- spellParts -/
theorem k_SC_spellParts6 (l : Launch) (dC : Nat → ClassId) (dI : Nat → Nat → Nat) (sz : Nat) (d : Nat) (x : Nat) (wt : Int32) (q : Int32 × Int32) (a : Nat) (cB : ClassId) (cO : ClassId) (kd : Int32) (tx0 : Nat) (nu0 : Int64) (nm0 : Nat) (pa : Nat) (dp0 : Int32) (cn0 : Int32) (xs : List Nat) (ns : List (List Nat)) (rs : List (List Row)) (em : Nat) (aK : Nat → Nat) (aV : Nat → Nat) (fz : va_W) (hc : VAc a 4 tx0 nu0 nm0 pa dp0 cn0 ∈ fz) (hal : ALz cO em fz pa xs) (hns : ns.length = xs.length) (hrs : rs.length = xs.length) (hvl : ∀ i, i < xs.length → VT cB cO em aK d fz (xs.getD i 0) (ns.getD i []) (rs.getD i [])) (HS : C_SC_spell d) : Met l y_SC_spellParts ws_SC_spellParts ({ frames := (7 + 2 * d), cells := 0, slots := 0, locals := (180 + 60 * d) }) (va_Pc [.ref x, .ref a, .int 123, .int 125] (fun U => U.heap.size = sz ∧ va_P (dC, dI) vwCl ([(x, .inr (8, [.int wt, .int q.1, .int q.2]))] ++ fz) U.heap ∧ va_K (dC, dI) vwCl [(cB, .byte), (cO, .object "java/lang/Object")] U ∧ va_D (fun _ => True) ([(x, .inr (8, [.int wt, .int q.1, .int q.2]))] ++ fz) ∧ EX em aK aV (va_A ([(x, .inr (8, [.int wt, .int q.1, .int q.2]))] ++ fz) sz) U U.heap)) (va_Qv (fun (u : Unit) => True) (fun u t => va_P (dC, dI) vwCl ([(x, .inr (8, [.int wt, .int (emz wt q (123 :: (kT 6 false ns rs ++ [125]))).1, .int (emz wt q (123 :: (kT 6 false ns rs ++ [125]))).2]))] ++ fz) t.heap ∧ va_K (dC, dI) vwCl [(cB, .byte), (cO, .object "java/lang/Object")] t ∧ va_D (va_A ([(x, .inr (8, [.int wt, .int q.1, .int q.2]))] ++ fz) sz) ([(x, .inr (8, [.int wt, .int (emz wt q (123 :: (kT 6 false ns rs ++ [125]))).1, .int (emz wt q (123 :: (kT 6 false ns rs ++ [125]))).2]))] ++ fz)) (va_A ([(x, .inr (8, [.int wt, .int q.1, .int q.2]))] ++ fz) sz)) 0 0 (va_A ([(x, .inr (8, [.int wt, .int q.1, .int q.2]))] ++ fz) sz) := by
  refine Met.ofW (cc := c_SC_spellParts) (maxL := 6) (ret := none) (by decide) rfl ?_
  intro p e s m args below meth c s₁ B hml hv
  obtain ⟨hargs, hsz, hP, hK, hD0, hE⟩ := hv
  rw [show entryFrame m args 6 = entryFrame m ([.ref x, .ref a, .int 123, .int 125]).toArray 6 by rw [hargs]]
  have hx := B.exec
  have hb := B.bytes
  have hr := B.returns
  have hts := atoms_spec (ws := ws_SC_spellParts) B.pre
  have htb := fun w (h : w ∈ TBL) => hts w (List.mem_cons_of_mem _ h)
  have hown : s.vm.findClass R_SC = some m.cls := findClass_of_methodNamed B.named
  have hlocks := B.notSynchronized
  subst hsz
  have hD := hD0.self (sz := s.heap.size)
  generalize hAe : va_A ([(x, .inr (8, [.int wt, .int q.1, .int q.2]))] ++ fz) s.heap.size = A at hD hE ⊢
  have hA : ∀ q : Nat, s.heap.size ≤ q → A q := fun q h => by rw [← hAe]; exact Or.inr h
  have hS : va_S A s.heap s.heap [] := va_S.rf
  have hP : va_P (dC, dI) vwCl ([(x, .inr (8, [.int wt, .int q.1, .int q.2]))] ++ fz) s.heap := hP
  have hl := lv_entry ([.ref x, .ref a, .int 123, .int 125]) (n := 6) (Nat.le_of_ble_eq_true rfl)
  rw [lg_entry_eq]
  generalize (lg_sl ([.ref x, .ref a, .int 123, .int 125]) ++ List.replicate (6 - (lg_sl ([.ref x, .ref a, .int 123, .int 125])).length) Slot.unset).toArray = ls at hl ⊢
  have hl : lv_has ls 6 [(0, .ref x), (1, .ref a), (2, .int 123), (3, .int 125)] := hl
  refine zz_nQ (fun Q hQ => ?_)
  have h160 := hal.1
  refine lv_aload_n hx hb d_SC_spellParts_0 rfl (lv_at hl 0 rfl) ?_
  refine lv_iload_n hx hb d_SC_spellParts_1 rfl (lv_at hl 2 rfl) ?_
  have hPc := hP.sub (ws' := [(x, .inr (8, [.int wt, .int q.1, .int q.2]))]) [0] rfl
  have hDc := hD.sub (ws' := [(x, .inr (8, [.int wt, .int q.1, .int q.2]))]) [0] (by decide) rfl
  have hFc := va_free (wc := [(x, .inr (8, [.int wt, .int q.1, .int q.2]))]) hD hS hA [0] rfl
  have hKc := hK.sub (tys' := []) [] rfl
  refine va_callv (va_runV (As := [.int (nI 123)]) (rest := []) ⟨hx, hb, hml, hown, htb⟩ (k_SC_next l dC dI _ x wt q 123 ) (cwV 1 htb (g_V (fun _ h => h) m_1084 m_1081 m_1083 m_1647 m_28) rfl rfl rfl (by decide +kernel) ⟨(by show 1 ≤ (7 + 2 * d); omega), (by show 21 ≤ (180 + 60 * d); omega)⟩) ⟨fun a U g mk q => by obtain ⟨q0, q1, qP, qK, qD⟩ := q; exact ⟨q0, q1, qP, va_K.moved (u := U) (U := U.calling g mk a) (Vm.Alike.refl U.vm) qK, qD⟩, va_recv hK hP (ci := 8) rfl (q0 := 0) rfl, fun U hU hW => ⟨rfl, by rw [hU], by rw [hU]; exact hPc, va_K.moved hW.alike hKc, hDc.weaken (fun _ _ _ _ => trivial)⟩⟩ rfl rfl hl.1 rfl (lv_room (Nat.le_of_ble_eq_true rfl)) d_SC_spellParts_2 ⟨Nat.le_of_ble_eq_true rfl, Nat.le_of_ble_eq_true rfl⟩) hS (fun q _ h => hFc q h) hFc (fun u1 t H1 locs ht hvm hw3 hB hz1 hk1 hS => ?_)
  obtain ⟨hP1, hK1, hD1⟩ := hB
  rw [ht] at hP1
  have hK1 := va_K.moved hvm.symm hK1
  have hw3 : True := hw3
  obtain ⟨hP, hD⟩ := zz_joinN (pre := [(x, .inr (8, [.int wt, .int q.1, .int q.2]))]) (fz := fz) (wc := [(x, .inr (8, [.int wt, .int q.1, .int q.2]))]) (wr := []) (w1 := [(x, .inr (8, [.int wt, .int (emt wt q 123).1, .int (emt wt q 123).2]))]) hP hD [0] [] rfl rfl (by decide) (by decide) hk1 hFc hP1 hD1
  have hK := (hK.sub (tys' := [(cB, .byte), (cO, .object "java/lang/Object")]) [0, 1] rfl).app hK1
  generalize H1 = H at hP hS ⊢
  have hP : va_P (dC, dI) vwCl ([(x, .inr (8, [.int wt, .int (emt wt q 123).1, .int (emt wt q 123).2]))] ++ fz) H := hP
  have hD : va_D A ([(x, .inr (8, [.int wt, .int (emt wt q 123).1, .int (emt wt q 123).2]))] ++ fz) := hD
  have hK : va_K (dC, dI) vwCl [(cB, .byte), (cO, .object "java/lang/Object")] s := hK
  refine lv_iconst (v := 0) hx hb d_SC_spellParts_5 (by decide) ?_
  refine lv_istore hx hb d_SC_spellParts_6 hl (by decide) rfl (fun ls hl => ?_)
  have hl : lv_has ls 6 [(4, .int 0), (0, .ref x), (1, .ref a), (2, .int 123), (3, .int 125)] := hl
  rw [show (emt wt q 123) = (emz wt q (123 :: kT 6 false (ns.take 0) (rs.take 0))) from (rfl : emt wt q 123 = (emz wt q (123 :: kT 6 false (ns.take 0) (rs.take 0))))] at hP hD
  have hP : va_P (dC, dI) vwCl ([(x, .inr (8, [.int wt, .int (emz wt q (123 :: kT 6 false (ns.take 0) (rs.take 0))).1, .int (emz wt q (123 :: kT 6 false (ns.take 0) (rs.take 0))).2]))] ++ fz) H := hP
  have hD : va_D A ([(x, .inr (8, [.int wt, .int (emz wt q (123 :: kT 6 false (ns.take 0) (rs.take 0))).1, .int (emz wt q (123 :: kT 6 false (ns.take 0) (rs.take 0))).2]))] ++ fz) := hD
  have hloop : ∀ (k9 : Nat) (i : Nat) (H : Heap) (locs : List Loc) (ls : Array Slot), xs.length - i = k9 → (i ≤ xs.length) → lv_has ls 6 [(4, .int (nI i)), (0, .ref x), (1, .ref a), (2, .int 123), (3, .int 125)] → va_P (dC, dI) vwCl ([(x, .inr (8, [.int wt, .int (emz wt q (123 :: kT 6 false (ns.take i) (rs.take i))).1, .int (emz wt q (123 :: kT 6 false (ns.take i) (rs.take i))).2]))] ++ fz) H → va_D A ([(x, .inr (8, [.int wt, .int (emz wt q (123 :: kT 6 false (ns.take i) (rs.take i))).1, .int (emz wt q (123 :: kT 6 false (ns.take i) (rs.take i))).2]))] ++ fz) → va_S A s.heap H locs → W p l e (headSpec ws_SC_spellParts ({ frames := (7 + 2 * d), cells := 0, slots := 0, locals := (180 + 60 * d) })).room s m args below meth c H locs 0 0 Q (F0 m 8 ls []) := by
    intro k9
    induction k9 using Nat.strongRecOn with
    | ind k9 ih =>
      intro i H locs ls hk9 hi hl hP hD hS
      refine lv_iload hx hb d_SC_spellParts_8 (lv_at hl 0 rfl) ?_
      refine lv_aload_n hx hb d_SC_spellParts_10 rfl (lv_at hl 2 rfl) ?_
      obtain ⟨qz5, hz5⟩ := List.getElem?_of_mem (List.mem_append_right [(x, .inr (8, [.int wt, .int (emz wt q (123 :: kT 6 false (ns.take i) (rs.take i))).1, .int (emz wt q (123 :: kT 6 false (ns.take i) (rs.take i))).2]))] hc)
      refine va_get (D := (dC, dI)) (ci := 3) (v := .ref pa) (C := R_VA) (T := T_VA) (N := 7) hx hb htb in_VA hown hK hP qz5 hz5 rfl 4 (by decide) (htb _ m_395) (fun _ h9 => h9) rfl d_SC_spellParts_11 ?_
      have hPc : va_P (dC, dI) vwCl ([] ++ fz) _ := zz_tlP (pre := [(x, .inr (8, [.int wt, .int (emz wt q (123 :: kT 6 false (ns.take i) (rs.take i))).1, .int (emz wt q (123 :: kT 6 false (ns.take i) (rs.take i))).2]))]) (tl := fz) hP
      have hKc := hK.sub (tys' := []) [] rfl
      refine vp_callSi (W.runV (As := []) (rest := [.int (nI i)]) ⟨hx, hb, hml, hown, htb⟩ (z_AL_size l dC dI pa xs cO em fz hal) (cwV 0 htb (g_V (fun _ h => h) m_486 m_1091 m_484 m_485 m_8) rfl rfl rfl (by decide +kernel) ⟨(by show 1 ≤ (7 + 2 * d); omega), (by show 20 ≤ (180 + 60 * d); omega)⟩) ⟨fun a U g mk q => by obtain ⟨q0, qP, qK⟩ := q; exact ⟨q0, qP, va_K.moved (u := U) (U := U.calling g mk a) (Vm.Alike.refl U.vm) qK⟩, (hal).recv hK hP (fun q hq => List.mem_append_right _ hq), fun U hU hW => ⟨rfl, by rw [hU]; exact hPc, va_K.moved hW.alike hKc⟩⟩ rfl rfl hl.1 rfl (lv_room (Nat.le_of_ble_eq_true rfl)) d_SC_spellParts_14 ⟨Nat.le_of_ble_eq_true rfl, Nat.le_of_ble_eq_true rfl⟩) (fun r6 hw7 => ?_)
      have hw7 : r6 = nI xs.length := hw7
      obtain rfl := hw7
      refine lv_icmp_ge (tgt := 80) hx hb d_SC_spellParts_17 rfl (fun h1 => ?_) (fun h1 => ?_)
      · have h1 : xs.length ≤ i := (nI_leI (by omega) (by omega)).mp h1
        rw [List.take_of_length_le (show ns.length ≤ i by omega), List.take_of_length_le (show rs.length ≤ i by omega)] at hP hD
        have hP : va_P (dC, dI) vwCl ([(x, .inr (8, [.int wt, .int (emz wt q (123 :: kT 6 false ns rs)).1, .int (emz wt q (123 :: kT 6 false ns rs)).2]))] ++ fz) H := hP
        have hD : va_D A ([(x, .inr (8, [.int wt, .int (emz wt q (123 :: kT 6 false ns rs)).1, .int (emz wt q (123 :: kT 6 false ns rs)).2]))] ++ fz) := hD
        refine lv_aload_n hx hb d_SC_spellParts_80 rfl (lv_at hl 1 rfl) ?_
        refine lv_iload_n hx hb d_SC_spellParts_81 rfl (lv_at hl 4 rfl) ?_
        have hPc := hP.sub (ws' := [(x, .inr (8, [.int wt, .int (emz wt q (123 :: kT 6 false ns rs)).1, .int (emz wt q (123 :: kT 6 false ns rs)).2]))]) [0] rfl
        have hDc := hD.sub (ws' := [(x, .inr (8, [.int wt, .int (emz wt q (123 :: kT 6 false ns rs)).1, .int (emz wt q (123 :: kT 6 false ns rs)).2]))]) [0] (by decide) rfl
        have hFc := va_free (wc := [(x, .inr (8, [.int wt, .int (emz wt q (123 :: kT 6 false ns rs)).1, .int (emz wt q (123 :: kT 6 false ns rs)).2]))]) hD hS hA [0] rfl
        have hKc := hK.sub (tys' := []) [] rfl
        refine va_callv (va_runV (As := [.int (nI 125)]) (rest := []) ⟨hx, hb, hml, hown, htb⟩ (k_SC_next l dC dI _ x wt (emz wt q (123 :: kT 6 false ns rs)) 125 ) (cwV 1 htb (g_V (fun _ h => h) m_1084 m_1081 m_1083 m_1647 m_28) rfl rfl rfl (by decide +kernel) ⟨(by show 1 ≤ (7 + 2 * d); omega), (by show 21 ≤ (180 + 60 * d); omega)⟩) ⟨fun a U g mk q => by obtain ⟨q0, q1, qP, qK, qD⟩ := q; exact ⟨q0, q1, qP, va_K.moved (u := U) (U := U.calling g mk a) (Vm.Alike.refl U.vm) qK, qD⟩, va_recv hK hP (ci := 8) rfl (q0 := 0) rfl, fun U hU hW => ⟨rfl, by rw [hU], by rw [hU]; exact hPc, va_K.moved hW.alike hKc, hDc.weaken (fun _ _ _ _ => trivial)⟩⟩ rfl rfl hl.1 rfl (lv_room (Nat.le_of_ble_eq_true rfl)) d_SC_spellParts_82 ⟨Nat.le_of_ble_eq_true rfl, Nat.le_of_ble_eq_true rfl⟩) hS (fun q _ h => hFc q h) hFc (fun u8 t H1 locs ht hvm hw10 hB hz1 hk1 hS => ?_)
        obtain ⟨hP1, hK1, hD1⟩ := hB
        rw [ht] at hP1
        have hK1 := va_K.moved hvm.symm hK1
        have hw10 : True := hw10
        obtain ⟨hP, hD⟩ := zz_joinN (pre := [(x, .inr (8, [.int wt, .int (emz wt q (123 :: kT 6 false ns rs)).1, .int (emz wt q (123 :: kT 6 false ns rs)).2]))]) (fz := fz) (wc := [(x, .inr (8, [.int wt, .int (emz wt q (123 :: kT 6 false ns rs)).1, .int (emz wt q (123 :: kT 6 false ns rs)).2]))]) (wr := []) (w1 := [(x, .inr (8, [.int wt, .int (emt wt (emz wt q (123 :: kT 6 false ns rs)) 125).1, .int (emt wt (emz wt q (123 :: kT 6 false ns rs)) 125).2]))]) hP hD [0] [] rfl rfl (by decide) (by decide) hk1 hFc hP1 hD1
        have hK := (hK.sub (tys' := [(cB, .byte), (cO, .object "java/lang/Object")]) [0, 1] rfl).app hK1
        generalize H1 = H at hP hS ⊢
        have hP : va_P (dC, dI) vwCl ([(x, .inr (8, [.int wt, .int (emt wt (emz wt q (123 :: kT 6 false ns rs)) 125).1, .int (emt wt (emz wt q (123 :: kT 6 false ns rs)) 125).2]))] ++ fz) H := hP
        have hD : va_D A ([(x, .inr (8, [.int wt, .int (emt wt (emz wt q (123 :: kT 6 false ns rs)) 125).1, .int (emt wt (emz wt q (123 :: kT 6 false ns rs)) 125).2]))] ++ fz) := hD
        have hK : va_K (dC, dI) vwCl [(cB, .byte), (cO, .object "java/lang/Object")] s := hK
        rw [show (emt wt (emz wt q (123 :: kT 6 false ns rs)) 125) = (emz wt q (123 :: (kT 6 false ns rs ++ [125]))) from by rw [← emz_one (wt := wt), ← emz_app]; rfl] at hP hD
        have hP : va_P (dC, dI) vwCl ([(x, .inr (8, [.int wt, .int (emz wt q (123 :: (kT 6 false ns rs ++ [125]))).1, .int (emz wt q (123 :: (kT 6 false ns rs ++ [125]))).2]))] ++ fz) H := hP
        have hD : va_D A ([(x, .inr (8, [.int wt, .int (emz wt q (123 :: (kT 6 false ns rs ++ [125]))).1, .int (emz wt q (123 :: (kT 6 false ns rs ++ [125]))).2]))] ++ fz) := hD
        have hP9 := zz_pickP (pre := [(x, .inr (8, [.int wt, .int (emz wt q (123 :: (kT 6 false ns rs ++ [125]))).1, .int (emz wt q (123 :: (kT 6 false ns rs ++ [125]))).2]))]) (fz := fz) (wc := [(x, .inr (8, [.int wt, .int (emz wt q (123 :: (kT 6 false ns rs ++ [125]))).1, .int (emz wt q (123 :: (kT 6 false ns rs ++ [125]))).2]))]) hP [0] rfl
        have hD9 := zz_pickD (pre := [(x, .inr (8, [.int wt, .int (emz wt q (123 :: (kT 6 false ns rs ++ [125]))).1, .int (emz wt q (123 :: (kT 6 false ns rs ++ [125]))).2]))]) (fz := fz) (wc := [(x, .inr (8, [.int wt, .int (emz wt q (123 :: (kT 6 false ns rs ++ [125]))).1, .int (emz wt q (123 :: (kT 6 false ns rs ++ [125]))).2]))]) hD [0] (by decide) rfl
        have hK9 := hK.sub (tys' := [(cB, .byte), (cO, .object "java/lang/Object")]) [0, 1] rfl
        rw [hQ]
        refine W.widen (k := 0) (n := 0) (Nat.le_of_ble_eq_true rfl) (Nat.le_of_ble_eq_true rfl) ?_
        exact W.vret hx hb hr (fun t ht hW => ⟨⟨(), rfl, trivial, ⟨by rw [ht]; exact hP9, va_K.moved hW.alike hK9, hD9⟩⟩, hS.F ht⟩) hS.2.2 d_SC_spellParts_85
      · have h1 : i < xs.length := Nat.not_le.mp (fun h => h1 ((nI_leI (by omega) (by omega)).mpr h))
        have hvt := hvl i h1
        obtain ⟨kd2, tx2, nu2, nm2, pa2, dp2, cn2, hc2, hn2⟩ := hvt.cellN
        have hsn := kT_snoc 6 false (ns.take i) (rs.take i) (ns.getD i []) (rs.getD i []) (by rw [List.length_take, List.length_take]; omega)
        rw [← take_step [] (by omega), ← take_step [] (by omega)] at hsn
        refine lv_aload_n hx hb d_SC_spellParts_20 rfl (lv_at hl 2 rfl) ?_
        obtain ⟨qz8, hz8⟩ := List.getElem?_of_mem (List.mem_append_right [(x, .inr (8, [.int wt, .int (emz wt q (123 :: kT 6 false (ns.take i) (rs.take i))).1, .int (emz wt q (123 :: kT 6 false (ns.take i) (rs.take i))).2]))] hc)
        refine va_get (D := (dC, dI)) (ci := 3) (v := .ref pa) (C := R_VA) (T := T_VA) (N := 7) hx hb htb in_VA hown hK hP qz8 hz8 rfl 4 (by decide) (htb _ m_395) (fun _ h9 => h9) rfl d_SC_spellParts_21 ?_
        refine lv_iload hx hb d_SC_spellParts_24 (lv_at hl 0 rfl) ?_
        have hPc : va_P (dC, dI) vwCl ([] ++ fz) _ := zz_tlP (pre := [(x, .inr (8, [.int wt, .int (emz wt q (123 :: kT 6 false (ns.take i) (rs.take i))).1, .int (emz wt q (123 :: kT 6 false (ns.take i) (rs.take i))).2]))]) (tl := fz) hP
        have hKc := hK.sub (tys' := [(cO, .object "java/lang/Object")]) [1] rfl
        refine va_csq (W.runV (As := [.int (nI i)]) (rest := []) ⟨hx, hb, hml, hown, htb⟩ (z_AL_get l dC dI pa xs cO em i fz hal h1) (cwV 1 htb (g_V (fun _ h => h) m_490 m_1092 m_488 m_489 m_8) rfl rfl rfl (by decide +kernel) ⟨(by show 3 ≤ (7 + 2 * d); omega), (by show 64 ≤ (180 + 60 * d); omega)⟩) ⟨fun a U g mk q => by obtain ⟨q0, qP, qK⟩ := q; exact ⟨q0, qP, va_K.moved (u := U) (U := U.calling g mk a) (Vm.Alike.refl U.vm) qK⟩, (hal).recv hK hP (fun q hq => List.mem_append_right _ hq), fun U hU hW => ⟨rfl, by rw [hU]; exact hPc, va_K.moved hW.alike hKc⟩⟩ rfl rfl hl.1 rfl (lv_room (Nat.le_of_ble_eq_true rfl)) d_SC_spellParts_26 ⟨Nat.le_of_ble_eq_true rfl, Nat.le_of_ble_eq_true rfl⟩) (fun r9 hw10 => ?_)
        have hw10 : r9 = some (xs.getD i 0) := hw10
        obtain rfl := hw10
        refine W.eq (g2 := F0 m 29 ls [.ref (xs.getD i 0)]) rfl ?_
        refine va_castY (C := "PatchStore$Value") hx hb hown (htb _ m_1093) (nw_14 hE) (zz_recv hK hP (ci := 3) rfl (List.mem_append_right _ hc2)) d_SC_spellParts_29 ?_
        refine lv_astore hx hb d_SC_spellParts_32 hl (by decide) rfl (fun ls hl => ?_)
        have hl : lv_has ls 6 [(5, .ref (xs.getD i 0)), (4, .int (nI i)), (0, .ref x), (1, .ref a), (2, .int 123), (3, .int 125)] := hl
        refine lv_iload hx hb d_SC_spellParts_34 (lv_at hl 1 rfl) ?_
        refine lv_if_le (tgt := 45) hx hb d_SC_spellParts_36 rfl (fun h2 => ?_) (fun h2 => ?_)
        · have hi0 : i = 0 := Nat.le_zero.mp ((nI_leI (by omega) (by decide)).mp h2)
          refine lv_aload_n hx hb d_SC_spellParts_45 rfl (lv_at hl 3 rfl) ?_
          obtain ⟨qz11, hz11⟩ := List.getElem?_of_mem (List.mem_append_right [(x, .inr (8, [.int wt, .int (emz wt q (123 :: kT 6 false (ns.take i) (rs.take i))).1, .int (emz wt q (123 :: kT 6 false (ns.take i) (rs.take i))).2]))] hc)
          refine va_get (D := (dC, dI)) (ci := 3) (v := .int 4) (C := R_VA) (T := T_VA) (N := 7) hx hb htb in_VA hown hK hP qz11 hz11 rfl 0 (by decide) (htb _ m_380) (fun _ h9 => h9) rfl d_SC_spellParts_46 ?_
          refine lv_iconst (v := 4) hx hb d_SC_spellParts_49 (by decide) ?_
          refine lv_icmp_ne (tgt := 68) hx hb d_SC_spellParts_50 rfl (fun h9 => absurd (rfl) h9) (fun _ => ?_)
          refine lv_aload_n hx hb d_SC_spellParts_53 rfl (lv_at hl 2 rfl) ?_
          refine lv_aload hx hb d_SC_spellParts_54 (lv_at hl 0 rfl) ?_
          obtain ⟨qz12, hz12⟩ := List.getElem?_of_mem (List.mem_append_right [(x, .inr (8, [.int wt, .int (emz wt q (123 :: kT 6 false (ns.take i) (rs.take i))).1, .int (emz wt q (123 :: kT 6 false (ns.take i) (rs.take i))).2]))] hc2)
          refine va_get (D := (dC, dI)) (ci := 3) (v := .ref nm2) (C := R_VA) (T := T_VA) (N := 7) hx hb htb in_VA hown hK hP qz12 hz12 rfl 3 (by decide) (htb _ m_390) (fun _ h9 => h9) rfl d_SC_spellParts_56 ?_
          have hPc := zz_pickP (pre := [(x, .inr (8, [.int wt, .int (emz wt q (123 :: kT 6 false (ns.take i) (rs.take i))).1, .int (emz wt q (123 :: kT 6 false (ns.take i) (rs.take i))).2]))]) (fz := fz) (wc := [(x, .inr (8, [.int wt, .int (emz wt q (123 :: kT 6 false (ns.take i) (rs.take i))).1, .int (emz wt q (123 :: kT 6 false (ns.take i) (rs.take i))).2]))]) hP [0] rfl
          have hDc := zz_pickD (pre := [(x, .inr (8, [.int wt, .int (emz wt q (123 :: kT 6 false (ns.take i) (rs.take i))).1, .int (emz wt q (123 :: kT 6 false (ns.take i) (rs.take i))).2]))]) (fz := fz) (wc := [(x, .inr (8, [.int wt, .int (emz wt q (123 :: kT 6 false (ns.take i) (rs.take i))).1, .int (emz wt q (123 :: kT 6 false (ns.take i) (rs.take i))).2]))]) hD [0] (by decide) rfl
          have hFc := zz_free (pre := [(x, .inr (8, [.int wt, .int (emz wt q (123 :: kT 6 false (ns.take i) (rs.take i))).1, .int (emz wt q (123 :: kT 6 false (ns.take i) (rs.take i))).2]))]) (fz := fz) (wc := [(x, .inr (8, [.int wt, .int (emz wt q (123 :: kT 6 false (ns.take i) (rs.take i))).1, .int (emz wt q (123 :: kT 6 false (ns.take i) (rs.take i))).2]))]) hD hS hA [0] rfl
          have hKc := hK.sub (tys' := [(cB, .byte)]) [0] rfl
          refine va_callv (va_runV (As := [.ref nm2]) (rest := []) ⟨hx, hb, hml, hown, htb⟩ (k_SC_spellString l dC dI _ x wt (emz wt q (123 :: kT 6 false (ns.take i) (rs.take i))) nm2 (ns.getD i []) cB em aK aV fz hn2) (cwV 1 htb (g_V (fun _ h => h) m_1080 m_1077 m_1079 m_1646 m_28) rfl rfl rfl (by decide +kernel) ⟨(by show 5 ≤ (7 + 2 * d); omega), (by show 108 ≤ (180 + 60 * d); omega)⟩) ⟨fun a U g mk q => by obtain ⟨q0, q1, qP, qK, qD, z0⟩ := q; exact ⟨q0, q1, qP, va_K.moved (u := U) (U := U.calling g mk a) (Vm.Alike.refl U.vm) qK, qD, EX.same (U := U) (U' := U.calling g mk a) rfl z0⟩, va_recv hK hP (ci := 8) rfl (q0 := 0) rfl, fun U hU hW => ⟨rfl, by rw [hU], by rw [hU]; exact hPc, va_K.moved hW.alike hKc, hDc.weaken (fun _ _ _ _ => trivial), by rw [hU]; exact EX.warm hW ((hE.kept (fun a h1 h2 => hS.2.1 a h1 h2)).narrow hFc)⟩⟩ rfl rfl hl.1 rfl (lv_room (Nat.le_of_ble_eq_true rfl)) d_SC_spellParts_59 ⟨Nat.le_of_ble_eq_true rfl, Nat.le_of_ble_eq_true rfl⟩) hS (fun q _ h => hFc q h) hFc (fun u13 t H1 locs ht hvm hw15 hB hz1 hk1 hS => ?_)
          obtain ⟨hP1, hK1, hD1⟩ := hB
          rw [ht] at hP1
          have hK1 := va_K.moved hvm.symm hK1
          have hw15 : True := hw15
          obtain ⟨hP, hD⟩ := zz_join (pre := [(x, .inr (8, [.int wt, .int (emz wt q (123 :: kT 6 false (ns.take i) (rs.take i))).1, .int (emz wt q (123 :: kT 6 false (ns.take i) (rs.take i))).2]))]) (fz := fz) (wc := [(x, .inr (8, [.int wt, .int (emz wt q (123 :: kT 6 false (ns.take i) (rs.take i))).1, .int (emz wt q (123 :: kT 6 false (ns.take i) (rs.take i))).2]))]) (wr := []) (w1 := ([(x, .inr (8, [.int wt, .int (emz wt (emz wt q (123 :: kT 6 false (ns.take i) (rs.take i))) (strT (ns.getD i []))).1, .int (emz wt (emz wt q (123 :: kT 6 false (ns.take i) (rs.take i))) (strT (ns.getD i []))).2]))] ++ fz)) hP hD [0] [] rfl rfl (by decide) (by decide) hk1 hFc hP1 hD1
          have hK := (hK.sub (tys' := [(cO, .object "java/lang/Object")]) [1] rfl).app hK1
          generalize H1 = H at hP hS ⊢
          have hP : va_P (dC, dI) vwCl ([(x, .inr (8, [.int wt, .int (emz wt (emz wt q (123 :: kT 6 false (ns.take i) (rs.take i))) (strT (ns.getD i []))).1, .int (emz wt (emz wt q (123 :: kT 6 false (ns.take i) (rs.take i))) (strT (ns.getD i []))).2]))] ++ fz) H := hP
          have hD : va_D A ([(x, .inr (8, [.int wt, .int (emz wt (emz wt q (123 :: kT 6 false (ns.take i) (rs.take i))) (strT (ns.getD i []))).1, .int (emz wt (emz wt q (123 :: kT 6 false (ns.take i) (rs.take i))) (strT (ns.getD i []))).2]))] ++ fz) := hD
          have hK : va_K (dC, dI) vwCl [(cO, .object "java/lang/Object"), (cB, .byte)] s := hK
          refine lv_aload_n hx hb d_SC_spellParts_62 rfl (lv_at hl 2 rfl) ?_
          refine lv_bipush (v := 58) hx hb d_SC_spellParts_63 (by decide) ?_
          have hPc := hP.sub (ws' := [(x, .inr (8, [.int wt, .int (emz wt (emz wt q (123 :: kT 6 false (ns.take i) (rs.take i))) (strT (ns.getD i []))).1, .int (emz wt (emz wt q (123 :: kT 6 false (ns.take i) (rs.take i))) (strT (ns.getD i []))).2]))]) [0] rfl
          have hDc := hD.sub (ws' := [(x, .inr (8, [.int wt, .int (emz wt (emz wt q (123 :: kT 6 false (ns.take i) (rs.take i))) (strT (ns.getD i []))).1, .int (emz wt (emz wt q (123 :: kT 6 false (ns.take i) (rs.take i))) (strT (ns.getD i []))).2]))]) [0] (by decide) rfl
          have hFc := va_free (wc := [(x, .inr (8, [.int wt, .int (emz wt (emz wt q (123 :: kT 6 false (ns.take i) (rs.take i))) (strT (ns.getD i []))).1, .int (emz wt (emz wt q (123 :: kT 6 false (ns.take i) (rs.take i))) (strT (ns.getD i []))).2]))]) hD hS hA [0] rfl
          have hKc := hK.sub (tys' := []) [] rfl
          refine va_callv (va_runV (As := [.int (nI 58)]) (rest := []) ⟨hx, hb, hml, hown, htb⟩ (k_SC_next l dC dI _ x wt (emz wt (emz wt q (123 :: kT 6 false (ns.take i) (rs.take i))) (strT (ns.getD i []))) 58 ) (cwV 1 htb (g_V (fun _ h => h) m_1084 m_1081 m_1083 m_1647 m_28) rfl rfl rfl (by decide +kernel) ⟨(by show 1 ≤ (7 + 2 * d); omega), (by show 21 ≤ (180 + 60 * d); omega)⟩) ⟨fun a U g mk q => by obtain ⟨q0, q1, qP, qK, qD⟩ := q; exact ⟨q0, q1, qP, va_K.moved (u := U) (U := U.calling g mk a) (Vm.Alike.refl U.vm) qK, qD⟩, va_recv hK hP (ci := 8) rfl (q0 := 0) rfl, fun U hU hW => ⟨rfl, by rw [hU], by rw [hU]; exact hPc, va_K.moved hW.alike hKc, hDc.weaken (fun _ _ _ _ => trivial)⟩⟩ rfl rfl hl.1 rfl (lv_room (Nat.le_of_ble_eq_true rfl)) d_SC_spellParts_65 ⟨Nat.le_of_ble_eq_true rfl, Nat.le_of_ble_eq_true rfl⟩) hS (fun q _ h => hFc q h) hFc (fun u17 t H1 locs ht hvm hw19 hB hz1 hk1 hS => ?_)
          obtain ⟨hP1, hK1, hD1⟩ := hB
          rw [ht] at hP1
          have hK1 := va_K.moved hvm.symm hK1
          have hw19 : True := hw19
          obtain ⟨hP, hD⟩ := zz_joinN (pre := [(x, .inr (8, [.int wt, .int (emz wt (emz wt q (123 :: kT 6 false (ns.take i) (rs.take i))) (strT (ns.getD i []))).1, .int (emz wt (emz wt q (123 :: kT 6 false (ns.take i) (rs.take i))) (strT (ns.getD i []))).2]))]) (fz := fz) (wc := [(x, .inr (8, [.int wt, .int (emz wt (emz wt q (123 :: kT 6 false (ns.take i) (rs.take i))) (strT (ns.getD i []))).1, .int (emz wt (emz wt q (123 :: kT 6 false (ns.take i) (rs.take i))) (strT (ns.getD i []))).2]))]) (wr := []) (w1 := [(x, .inr (8, [.int wt, .int (emt wt (emz wt (emz wt q (123 :: kT 6 false (ns.take i) (rs.take i))) (strT (ns.getD i []))) 58).1, .int (emt wt (emz wt (emz wt q (123 :: kT 6 false (ns.take i) (rs.take i))) (strT (ns.getD i []))) 58).2]))]) hP hD [0] [] rfl rfl (by decide) (by decide) hk1 hFc hP1 hD1
          have hK := (hK.sub (tys' := [(cO, .object "java/lang/Object"), (cB, .byte)]) [0, 1] rfl).app hK1
          generalize H1 = H at hP hS ⊢
          have hP : va_P (dC, dI) vwCl ([(x, .inr (8, [.int wt, .int (emt wt (emz wt (emz wt q (123 :: kT 6 false (ns.take i) (rs.take i))) (strT (ns.getD i []))) 58).1, .int (emt wt (emz wt (emz wt q (123 :: kT 6 false (ns.take i) (rs.take i))) (strT (ns.getD i []))) 58).2]))] ++ fz) H := hP
          have hD : va_D A ([(x, .inr (8, [.int wt, .int (emt wt (emz wt (emz wt q (123 :: kT 6 false (ns.take i) (rs.take i))) (strT (ns.getD i []))) 58).1, .int (emt wt (emz wt (emz wt q (123 :: kT 6 false (ns.take i) (rs.take i))) (strT (ns.getD i []))) 58).2]))] ++ fz) := hD
          have hK : va_K (dC, dI) vwCl [(cO, .object "java/lang/Object"), (cB, .byte)] s := hK
          refine lv_aload_n hx hb d_SC_spellParts_68 rfl (lv_at hl 2 rfl) ?_
          refine lv_aload hx hb d_SC_spellParts_69 (lv_at hl 0 rfl) ?_
          have hPc := zz_pickP (pre := [(x, .inr (8, [.int wt, .int (emt wt (emz wt (emz wt q (123 :: kT 6 false (ns.take i) (rs.take i))) (strT (ns.getD i []))) 58).1, .int (emt wt (emz wt (emz wt q (123 :: kT 6 false (ns.take i) (rs.take i))) (strT (ns.getD i []))) 58).2]))]) (fz := fz) (wc := [(x, .inr (8, [.int wt, .int (emt wt (emz wt (emz wt q (123 :: kT 6 false (ns.take i) (rs.take i))) (strT (ns.getD i []))) 58).1, .int (emt wt (emz wt (emz wt q (123 :: kT 6 false (ns.take i) (rs.take i))) (strT (ns.getD i []))) 58).2]))]) hP [0] rfl
          have hDc := zz_pickD (pre := [(x, .inr (8, [.int wt, .int (emt wt (emz wt (emz wt q (123 :: kT 6 false (ns.take i) (rs.take i))) (strT (ns.getD i []))) 58).1, .int (emt wt (emz wt (emz wt q (123 :: kT 6 false (ns.take i) (rs.take i))) (strT (ns.getD i []))) 58).2]))]) (fz := fz) (wc := [(x, .inr (8, [.int wt, .int (emt wt (emz wt (emz wt q (123 :: kT 6 false (ns.take i) (rs.take i))) (strT (ns.getD i []))) 58).1, .int (emt wt (emz wt (emz wt q (123 :: kT 6 false (ns.take i) (rs.take i))) (strT (ns.getD i []))) 58).2]))]) hD [0] (by decide) rfl
          have hFc := zz_free (pre := [(x, .inr (8, [.int wt, .int (emt wt (emz wt (emz wt q (123 :: kT 6 false (ns.take i) (rs.take i))) (strT (ns.getD i []))) 58).1, .int (emt wt (emz wt (emz wt q (123 :: kT 6 false (ns.take i) (rs.take i))) (strT (ns.getD i []))) 58).2]))]) (fz := fz) (wc := [(x, .inr (8, [.int wt, .int (emt wt (emz wt (emz wt q (123 :: kT 6 false (ns.take i) (rs.take i))) (strT (ns.getD i []))) 58).1, .int (emt wt (emz wt (emz wt q (123 :: kT 6 false (ns.take i) (rs.take i))) (strT (ns.getD i []))) 58).2]))]) hD hS hA [0] rfl
          have hKc := hK.sub (tys' := [(cB, .byte), (cO, .object "java/lang/Object")]) [1, 0] rfl
          refine va_callv (va_runV (As := [.ref (xs.getD i 0)]) (rest := []) ⟨hx, hb, hml, hown, htb⟩ (HS l dC dI _ x wt (emt wt (emz wt (emz wt q (123 :: kT 6 false (ns.take i) (rs.take i))) (strT (ns.getD i []))) 58) (xs.getD i 0) (ns.getD i []) (rs.getD i []) cB cO em aK aV fz hvt) (cwV 1 htb (g_V (fun _ h => h) m_1076 m_1094 m_1075 m_1645 m_28) rfl rfl rfl (by decide +kernel) ⟨(by show ((6 + 2 * d) + 1) ≤ (7 + 2 * d); omega), (by show (22 + (150 + 60 * d)) ≤ (180 + 60 * d); omega)⟩) ⟨fun a U g mk q => by obtain ⟨q0, q1, qP, qK, qD, z0⟩ := q; exact ⟨q0, q1, qP, va_K.moved (u := U) (U := U.calling g mk a) (Vm.Alike.refl U.vm) qK, qD, EX.same (U := U) (U' := U.calling g mk a) rfl z0⟩, va_recv hK hP (ci := 8) rfl (q0 := 0) rfl, fun U hU hW => ⟨rfl, by rw [hU], by rw [hU]; exact hPc, va_K.moved hW.alike hKc, hDc.weaken (fun _ _ _ _ => trivial), by rw [hU]; exact EX.warm hW ((hE.kept (fun a h1 h2 => hS.2.1 a h1 h2)).narrow hFc)⟩⟩ rfl rfl hl.1 rfl (lv_room (Nat.le_of_ble_eq_true rfl)) d_SC_spellParts_71 ⟨Nat.le_of_ble_eq_true rfl, Nat.le_of_ble_eq_true rfl⟩) hS (fun q _ h => hFc q h) hFc (fun u21 t H1 locs ht hvm hw23 hB hz1 hk1 hS => ?_)
          obtain ⟨hP1, hK1, hD1⟩ := hB
          rw [ht] at hP1
          have hK1 := va_K.moved hvm.symm hK1
          have hw23 : True := hw23
          obtain ⟨hP, hD⟩ := zz_join (pre := [(x, .inr (8, [.int wt, .int (emt wt (emz wt (emz wt q (123 :: kT 6 false (ns.take i) (rs.take i))) (strT (ns.getD i []))) 58).1, .int (emt wt (emz wt (emz wt q (123 :: kT 6 false (ns.take i) (rs.take i))) (strT (ns.getD i []))) 58).2]))]) (fz := fz) (wc := [(x, .inr (8, [.int wt, .int (emt wt (emz wt (emz wt q (123 :: kT 6 false (ns.take i) (rs.take i))) (strT (ns.getD i []))) 58).1, .int (emt wt (emz wt (emz wt q (123 :: kT 6 false (ns.take i) (rs.take i))) (strT (ns.getD i []))) 58).2]))]) (wr := []) (w1 := ([(x, .inr (8, [.int wt, .int (emz wt (emt wt (emz wt (emz wt q (123 :: kT 6 false (ns.take i) (rs.take i))) (strT (ns.getD i []))) 58) (txt (rs.getD i []))).1, .int (emz wt (emt wt (emz wt (emz wt q (123 :: kT 6 false (ns.take i) (rs.take i))) (strT (ns.getD i []))) 58) (txt (rs.getD i []))).2]))] ++ fz)) hP hD [0] [] rfl rfl (by decide) (by decide) hk1 hFc hP1 hD1
          have hK := (hK.sub (tys' := []) [] rfl).app hK1
          generalize H1 = H at hP hS ⊢
          have hP : va_P (dC, dI) vwCl ([(x, .inr (8, [.int wt, .int (emz wt (emt wt (emz wt (emz wt q (123 :: kT 6 false (ns.take i) (rs.take i))) (strT (ns.getD i []))) 58) (txt (rs.getD i []))).1, .int (emz wt (emt wt (emz wt (emz wt q (123 :: kT 6 false (ns.take i) (rs.take i))) (strT (ns.getD i []))) 58) (txt (rs.getD i []))).2]))] ++ fz) H := hP
          have hD : va_D A ([(x, .inr (8, [.int wt, .int (emz wt (emt wt (emz wt (emz wt q (123 :: kT 6 false (ns.take i) (rs.take i))) (strT (ns.getD i []))) 58) (txt (rs.getD i []))).1, .int (emz wt (emt wt (emz wt (emz wt q (123 :: kT 6 false (ns.take i) (rs.take i))) (strT (ns.getD i []))) 58) (txt (rs.getD i []))).2]))] ++ fz) := hD
          have hK : va_K (dC, dI) vwCl [(cB, .byte), (cO, .object "java/lang/Object")] s := hK
          have hsn9 : kT 6 false (ns.take (i + 1)) (rs.take (i + 1)) = kT 6 false (ns.take i) (rs.take i) ++ ([] ++ ((strT (ns.getD i []) ++ [58]) ++ txt (rs.getD i []))) := by rw [hsn, show (false || !(rs.take i).isEmpty) = false by rw [hi0]; rfl]; rfl
          rw [show (emz wt (emt wt (emz wt (emz wt q (123 :: kT 6 false (ns.take i) (rs.take i))) (strT (ns.getD i []))) 58) (txt (rs.getD i []))) = (emz wt q (123 :: kT 6 false (ns.take (i + 1)) (rs.take (i + 1)))) from by rw [hsn9, ← List.cons_append, emz_app]; simp only [emz, List.foldl_append, List.foldl_cons, List.foldl_nil]] at hP hD
          have hP : va_P (dC, dI) vwCl ([(x, .inr (8, [.int wt, .int (emz wt q (123 :: kT 6 false (ns.take (i + 1)) (rs.take (i + 1)))).1, .int (emz wt q (123 :: kT 6 false (ns.take (i + 1)) (rs.take (i + 1)))).2]))] ++ fz) H := hP
          have hD : va_D A ([(x, .inr (8, [.int wt, .int (emz wt q (123 :: kT 6 false (ns.take (i + 1)) (rs.take (i + 1)))).1, .int (emz wt q (123 :: kT 6 false (ns.take (i + 1)) (rs.take (i + 1)))).2]))] ++ fz) := hD
          refine lv_iinc (k := 1) (v := ((nI i) + Int32.ofInt 1)) hx hb d_SC_spellParts_74 hl rfl rfl (by decide) rfl (fun ls hl => ?_)
          have hl : lv_has ls 6 [(4, .int ((nI i) + Int32.ofInt 1)), (5, .ref (xs.getD i 0)), (0, .ref x), (1, .ref a), (2, .int 123), (3, .int 125)] := hl
          rw [show nI i + Int32.ofInt 1 = nI (i + 1) from nI_1 _] at hl
          refine lv_goto (tgt := 8) hx hb d_SC_spellParts_77 rfl ?_
          exact ih (xs.length - (i + 1)) (by omega) (i + 1) H locs ls rfl (by omega) (lv_sub hl [0, 2, 3, 4, 5] rfl) (zz_pickP (pre := [(x, .inr (8, [.int wt, .int (emz wt q (123 :: kT 6 false (ns.take (i + 1)) (rs.take (i + 1)))).1, .int (emz wt q (123 :: kT 6 false (ns.take (i + 1)) (rs.take (i + 1)))).2]))]) (fz := fz) (wc := [(x, .inr (8, [.int wt, .int (emz wt q (123 :: kT 6 false (ns.take (i + 1)) (rs.take (i + 1)))).1, .int (emz wt q (123 :: kT 6 false (ns.take (i + 1)) (rs.take (i + 1)))).2]))]) hP [0] rfl) (zz_pickD (pre := [(x, .inr (8, [.int wt, .int (emz wt q (123 :: kT 6 false (ns.take (i + 1)) (rs.take (i + 1)))).1, .int (emz wt q (123 :: kT 6 false (ns.take (i + 1)) (rs.take (i + 1)))).2]))]) (fz := fz) (wc := [(x, .inr (8, [.int wt, .int (emz wt q (123 :: kT 6 false (ns.take (i + 1)) (rs.take (i + 1)))).1, .int (emz wt q (123 :: kT 6 false (ns.take (i + 1)) (rs.take (i + 1)))).2]))]) hD [0] (by decide) rfl) hS
        · have hi0 : ¬ i = 0 := fun h => h2 (by rw [h]; decide)
          refine lv_aload_n hx hb d_SC_spellParts_39 rfl (lv_at hl 2 rfl) ?_
          refine lv_bipush (v := 44) hx hb d_SC_spellParts_40 (by decide) ?_
          have hPc := hP.sub (ws' := [(x, .inr (8, [.int wt, .int (emz wt q (123 :: kT 6 false (ns.take i) (rs.take i))).1, .int (emz wt q (123 :: kT 6 false (ns.take i) (rs.take i))).2]))]) [0] rfl
          have hDc := hD.sub (ws' := [(x, .inr (8, [.int wt, .int (emz wt q (123 :: kT 6 false (ns.take i) (rs.take i))).1, .int (emz wt q (123 :: kT 6 false (ns.take i) (rs.take i))).2]))]) [0] (by decide) rfl
          have hFc := va_free (wc := [(x, .inr (8, [.int wt, .int (emz wt q (123 :: kT 6 false (ns.take i) (rs.take i))).1, .int (emz wt q (123 :: kT 6 false (ns.take i) (rs.take i))).2]))]) hD hS hA [0] rfl
          have hKc := hK.sub (tys' := []) [] rfl
          refine va_callv (va_runV (As := [.int (nI 44)]) (rest := []) ⟨hx, hb, hml, hown, htb⟩ (k_SC_next l dC dI _ x wt (emz wt q (123 :: kT 6 false (ns.take i) (rs.take i))) 44 ) (cwV 1 htb (g_V (fun _ h => h) m_1084 m_1081 m_1083 m_1647 m_28) rfl rfl rfl (by decide +kernel) ⟨(by show 1 ≤ (7 + 2 * d); omega), (by show 21 ≤ (180 + 60 * d); omega)⟩) ⟨fun a U g mk q => by obtain ⟨q0, q1, qP, qK, qD⟩ := q; exact ⟨q0, q1, qP, va_K.moved (u := U) (U := U.calling g mk a) (Vm.Alike.refl U.vm) qK, qD⟩, va_recv hK hP (ci := 8) rfl (q0 := 0) rfl, fun U hU hW => ⟨rfl, by rw [hU], by rw [hU]; exact hPc, va_K.moved hW.alike hKc, hDc.weaken (fun _ _ _ _ => trivial)⟩⟩ rfl rfl hl.1 rfl (lv_room (Nat.le_of_ble_eq_true rfl)) d_SC_spellParts_42 ⟨Nat.le_of_ble_eq_true rfl, Nat.le_of_ble_eq_true rfl⟩) hS (fun q _ h => hFc q h) hFc (fun u11 t H1 locs ht hvm hw13 hB hz1 hk1 hS => ?_)
          obtain ⟨hP1, hK1, hD1⟩ := hB
          rw [ht] at hP1
          have hK1 := va_K.moved hvm.symm hK1
          have hw13 : True := hw13
          obtain ⟨hP, hD⟩ := zz_joinN (pre := [(x, .inr (8, [.int wt, .int (emz wt q (123 :: kT 6 false (ns.take i) (rs.take i))).1, .int (emz wt q (123 :: kT 6 false (ns.take i) (rs.take i))).2]))]) (fz := fz) (wc := [(x, .inr (8, [.int wt, .int (emz wt q (123 :: kT 6 false (ns.take i) (rs.take i))).1, .int (emz wt q (123 :: kT 6 false (ns.take i) (rs.take i))).2]))]) (wr := []) (w1 := [(x, .inr (8, [.int wt, .int (emt wt (emz wt q (123 :: kT 6 false (ns.take i) (rs.take i))) 44).1, .int (emt wt (emz wt q (123 :: kT 6 false (ns.take i) (rs.take i))) 44).2]))]) hP hD [0] [] rfl rfl (by decide) (by decide) hk1 hFc hP1 hD1
          have hK := (hK.sub (tys' := [(cB, .byte), (cO, .object "java/lang/Object")]) [0, 1] rfl).app hK1
          generalize H1 = H at hP hS ⊢
          have hP : va_P (dC, dI) vwCl ([(x, .inr (8, [.int wt, .int (emt wt (emz wt q (123 :: kT 6 false (ns.take i) (rs.take i))) 44).1, .int (emt wt (emz wt q (123 :: kT 6 false (ns.take i) (rs.take i))) 44).2]))] ++ fz) H := hP
          have hD : va_D A ([(x, .inr (8, [.int wt, .int (emt wt (emz wt q (123 :: kT 6 false (ns.take i) (rs.take i))) 44).1, .int (emt wt (emz wt q (123 :: kT 6 false (ns.take i) (rs.take i))) 44).2]))] ++ fz) := hD
          have hK : va_K (dC, dI) vwCl [(cB, .byte), (cO, .object "java/lang/Object")] s := hK
          refine lv_aload_n hx hb d_SC_spellParts_45 rfl (lv_at hl 3 rfl) ?_
          obtain ⟨qz15, hz15⟩ := List.getElem?_of_mem (List.mem_append_right [(x, .inr (8, [.int wt, .int (emt wt (emz wt q (123 :: kT 6 false (ns.take i) (rs.take i))) 44).1, .int (emt wt (emz wt q (123 :: kT 6 false (ns.take i) (rs.take i))) 44).2]))] hc)
          refine va_get (D := (dC, dI)) (ci := 3) (v := .int 4) (C := R_VA) (T := T_VA) (N := 7) hx hb htb in_VA hown hK hP qz15 hz15 rfl 0 (by decide) (htb _ m_380) (fun _ h9 => h9) rfl d_SC_spellParts_46 ?_
          refine lv_iconst (v := 4) hx hb d_SC_spellParts_49 (by decide) ?_
          refine lv_icmp_ne (tgt := 68) hx hb d_SC_spellParts_50 rfl (fun h9 => absurd (rfl) h9) (fun _ => ?_)
          refine lv_aload_n hx hb d_SC_spellParts_53 rfl (lv_at hl 2 rfl) ?_
          refine lv_aload hx hb d_SC_spellParts_54 (lv_at hl 0 rfl) ?_
          obtain ⟨qz16, hz16⟩ := List.getElem?_of_mem (List.mem_append_right [(x, .inr (8, [.int wt, .int (emt wt (emz wt q (123 :: kT 6 false (ns.take i) (rs.take i))) 44).1, .int (emt wt (emz wt q (123 :: kT 6 false (ns.take i) (rs.take i))) 44).2]))] hc2)
          refine va_get (D := (dC, dI)) (ci := 3) (v := .ref nm2) (C := R_VA) (T := T_VA) (N := 7) hx hb htb in_VA hown hK hP qz16 hz16 rfl 3 (by decide) (htb _ m_390) (fun _ h9 => h9) rfl d_SC_spellParts_56 ?_
          have hPc := zz_pickP (pre := [(x, .inr (8, [.int wt, .int (emt wt (emz wt q (123 :: kT 6 false (ns.take i) (rs.take i))) 44).1, .int (emt wt (emz wt q (123 :: kT 6 false (ns.take i) (rs.take i))) 44).2]))]) (fz := fz) (wc := [(x, .inr (8, [.int wt, .int (emt wt (emz wt q (123 :: kT 6 false (ns.take i) (rs.take i))) 44).1, .int (emt wt (emz wt q (123 :: kT 6 false (ns.take i) (rs.take i))) 44).2]))]) hP [0] rfl
          have hDc := zz_pickD (pre := [(x, .inr (8, [.int wt, .int (emt wt (emz wt q (123 :: kT 6 false (ns.take i) (rs.take i))) 44).1, .int (emt wt (emz wt q (123 :: kT 6 false (ns.take i) (rs.take i))) 44).2]))]) (fz := fz) (wc := [(x, .inr (8, [.int wt, .int (emt wt (emz wt q (123 :: kT 6 false (ns.take i) (rs.take i))) 44).1, .int (emt wt (emz wt q (123 :: kT 6 false (ns.take i) (rs.take i))) 44).2]))]) hD [0] (by decide) rfl
          have hFc := zz_free (pre := [(x, .inr (8, [.int wt, .int (emt wt (emz wt q (123 :: kT 6 false (ns.take i) (rs.take i))) 44).1, .int (emt wt (emz wt q (123 :: kT 6 false (ns.take i) (rs.take i))) 44).2]))]) (fz := fz) (wc := [(x, .inr (8, [.int wt, .int (emt wt (emz wt q (123 :: kT 6 false (ns.take i) (rs.take i))) 44).1, .int (emt wt (emz wt q (123 :: kT 6 false (ns.take i) (rs.take i))) 44).2]))]) hD hS hA [0] rfl
          have hKc := hK.sub (tys' := [(cB, .byte)]) [0] rfl
          refine va_callv (va_runV (As := [.ref nm2]) (rest := []) ⟨hx, hb, hml, hown, htb⟩ (k_SC_spellString l dC dI _ x wt (emt wt (emz wt q (123 :: kT 6 false (ns.take i) (rs.take i))) 44) nm2 (ns.getD i []) cB em aK aV fz hn2) (cwV 1 htb (g_V (fun _ h => h) m_1080 m_1077 m_1079 m_1646 m_28) rfl rfl rfl (by decide +kernel) ⟨(by show 5 ≤ (7 + 2 * d); omega), (by show 108 ≤ (180 + 60 * d); omega)⟩) ⟨fun a U g mk q => by obtain ⟨q0, q1, qP, qK, qD, z0⟩ := q; exact ⟨q0, q1, qP, va_K.moved (u := U) (U := U.calling g mk a) (Vm.Alike.refl U.vm) qK, qD, EX.same (U := U) (U' := U.calling g mk a) rfl z0⟩, va_recv hK hP (ci := 8) rfl (q0 := 0) rfl, fun U hU hW => ⟨rfl, by rw [hU], by rw [hU]; exact hPc, va_K.moved hW.alike hKc, hDc.weaken (fun _ _ _ _ => trivial), by rw [hU]; exact EX.warm hW ((hE.kept (fun a h1 h2 => hS.2.1 a h1 h2)).narrow hFc)⟩⟩ rfl rfl hl.1 rfl (lv_room (Nat.le_of_ble_eq_true rfl)) d_SC_spellParts_59 ⟨Nat.le_of_ble_eq_true rfl, Nat.le_of_ble_eq_true rfl⟩) hS (fun q _ h => hFc q h) hFc (fun u17 t H1 locs ht hvm hw19 hB hz1 hk1 hS => ?_)
          obtain ⟨hP1, hK1, hD1⟩ := hB
          rw [ht] at hP1
          have hK1 := va_K.moved hvm.symm hK1
          have hw19 : True := hw19
          obtain ⟨hP, hD⟩ := zz_join (pre := [(x, .inr (8, [.int wt, .int (emt wt (emz wt q (123 :: kT 6 false (ns.take i) (rs.take i))) 44).1, .int (emt wt (emz wt q (123 :: kT 6 false (ns.take i) (rs.take i))) 44).2]))]) (fz := fz) (wc := [(x, .inr (8, [.int wt, .int (emt wt (emz wt q (123 :: kT 6 false (ns.take i) (rs.take i))) 44).1, .int (emt wt (emz wt q (123 :: kT 6 false (ns.take i) (rs.take i))) 44).2]))]) (wr := []) (w1 := ([(x, .inr (8, [.int wt, .int (emz wt (emt wt (emz wt q (123 :: kT 6 false (ns.take i) (rs.take i))) 44) (strT (ns.getD i []))).1, .int (emz wt (emt wt (emz wt q (123 :: kT 6 false (ns.take i) (rs.take i))) 44) (strT (ns.getD i []))).2]))] ++ fz)) hP hD [0] [] rfl rfl (by decide) (by decide) hk1 hFc hP1 hD1
          have hK := (hK.sub (tys' := [(cO, .object "java/lang/Object")]) [1] rfl).app hK1
          generalize H1 = H at hP hS ⊢
          have hP : va_P (dC, dI) vwCl ([(x, .inr (8, [.int wt, .int (emz wt (emt wt (emz wt q (123 :: kT 6 false (ns.take i) (rs.take i))) 44) (strT (ns.getD i []))).1, .int (emz wt (emt wt (emz wt q (123 :: kT 6 false (ns.take i) (rs.take i))) 44) (strT (ns.getD i []))).2]))] ++ fz) H := hP
          have hD : va_D A ([(x, .inr (8, [.int wt, .int (emz wt (emt wt (emz wt q (123 :: kT 6 false (ns.take i) (rs.take i))) 44) (strT (ns.getD i []))).1, .int (emz wt (emt wt (emz wt q (123 :: kT 6 false (ns.take i) (rs.take i))) 44) (strT (ns.getD i []))).2]))] ++ fz) := hD
          have hK : va_K (dC, dI) vwCl [(cO, .object "java/lang/Object"), (cB, .byte)] s := hK
          refine lv_aload_n hx hb d_SC_spellParts_62 rfl (lv_at hl 2 rfl) ?_
          refine lv_bipush (v := 58) hx hb d_SC_spellParts_63 (by decide) ?_
          have hPc := hP.sub (ws' := [(x, .inr (8, [.int wt, .int (emz wt (emt wt (emz wt q (123 :: kT 6 false (ns.take i) (rs.take i))) 44) (strT (ns.getD i []))).1, .int (emz wt (emt wt (emz wt q (123 :: kT 6 false (ns.take i) (rs.take i))) 44) (strT (ns.getD i []))).2]))]) [0] rfl
          have hDc := hD.sub (ws' := [(x, .inr (8, [.int wt, .int (emz wt (emt wt (emz wt q (123 :: kT 6 false (ns.take i) (rs.take i))) 44) (strT (ns.getD i []))).1, .int (emz wt (emt wt (emz wt q (123 :: kT 6 false (ns.take i) (rs.take i))) 44) (strT (ns.getD i []))).2]))]) [0] (by decide) rfl
          have hFc := va_free (wc := [(x, .inr (8, [.int wt, .int (emz wt (emt wt (emz wt q (123 :: kT 6 false (ns.take i) (rs.take i))) 44) (strT (ns.getD i []))).1, .int (emz wt (emt wt (emz wt q (123 :: kT 6 false (ns.take i) (rs.take i))) 44) (strT (ns.getD i []))).2]))]) hD hS hA [0] rfl
          have hKc := hK.sub (tys' := []) [] rfl
          refine va_callv (va_runV (As := [.int (nI 58)]) (rest := []) ⟨hx, hb, hml, hown, htb⟩ (k_SC_next l dC dI _ x wt (emz wt (emt wt (emz wt q (123 :: kT 6 false (ns.take i) (rs.take i))) 44) (strT (ns.getD i []))) 58 ) (cwV 1 htb (g_V (fun _ h => h) m_1084 m_1081 m_1083 m_1647 m_28) rfl rfl rfl (by decide +kernel) ⟨(by show 1 ≤ (7 + 2 * d); omega), (by show 21 ≤ (180 + 60 * d); omega)⟩) ⟨fun a U g mk q => by obtain ⟨q0, q1, qP, qK, qD⟩ := q; exact ⟨q0, q1, qP, va_K.moved (u := U) (U := U.calling g mk a) (Vm.Alike.refl U.vm) qK, qD⟩, va_recv hK hP (ci := 8) rfl (q0 := 0) rfl, fun U hU hW => ⟨rfl, by rw [hU], by rw [hU]; exact hPc, va_K.moved hW.alike hKc, hDc.weaken (fun _ _ _ _ => trivial)⟩⟩ rfl rfl hl.1 rfl (lv_room (Nat.le_of_ble_eq_true rfl)) d_SC_spellParts_65 ⟨Nat.le_of_ble_eq_true rfl, Nat.le_of_ble_eq_true rfl⟩) hS (fun q _ h => hFc q h) hFc (fun u21 t H1 locs ht hvm hw23 hB hz1 hk1 hS => ?_)
          obtain ⟨hP1, hK1, hD1⟩ := hB
          rw [ht] at hP1
          have hK1 := va_K.moved hvm.symm hK1
          have hw23 : True := hw23
          obtain ⟨hP, hD⟩ := zz_joinN (pre := [(x, .inr (8, [.int wt, .int (emz wt (emt wt (emz wt q (123 :: kT 6 false (ns.take i) (rs.take i))) 44) (strT (ns.getD i []))).1, .int (emz wt (emt wt (emz wt q (123 :: kT 6 false (ns.take i) (rs.take i))) 44) (strT (ns.getD i []))).2]))]) (fz := fz) (wc := [(x, .inr (8, [.int wt, .int (emz wt (emt wt (emz wt q (123 :: kT 6 false (ns.take i) (rs.take i))) 44) (strT (ns.getD i []))).1, .int (emz wt (emt wt (emz wt q (123 :: kT 6 false (ns.take i) (rs.take i))) 44) (strT (ns.getD i []))).2]))]) (wr := []) (w1 := [(x, .inr (8, [.int wt, .int (emt wt (emz wt (emt wt (emz wt q (123 :: kT 6 false (ns.take i) (rs.take i))) 44) (strT (ns.getD i []))) 58).1, .int (emt wt (emz wt (emt wt (emz wt q (123 :: kT 6 false (ns.take i) (rs.take i))) 44) (strT (ns.getD i []))) 58).2]))]) hP hD [0] [] rfl rfl (by decide) (by decide) hk1 hFc hP1 hD1
          have hK := (hK.sub (tys' := [(cO, .object "java/lang/Object"), (cB, .byte)]) [0, 1] rfl).app hK1
          generalize H1 = H at hP hS ⊢
          have hP : va_P (dC, dI) vwCl ([(x, .inr (8, [.int wt, .int (emt wt (emz wt (emt wt (emz wt q (123 :: kT 6 false (ns.take i) (rs.take i))) 44) (strT (ns.getD i []))) 58).1, .int (emt wt (emz wt (emt wt (emz wt q (123 :: kT 6 false (ns.take i) (rs.take i))) 44) (strT (ns.getD i []))) 58).2]))] ++ fz) H := hP
          have hD : va_D A ([(x, .inr (8, [.int wt, .int (emt wt (emz wt (emt wt (emz wt q (123 :: kT 6 false (ns.take i) (rs.take i))) 44) (strT (ns.getD i []))) 58).1, .int (emt wt (emz wt (emt wt (emz wt q (123 :: kT 6 false (ns.take i) (rs.take i))) 44) (strT (ns.getD i []))) 58).2]))] ++ fz) := hD
          have hK : va_K (dC, dI) vwCl [(cO, .object "java/lang/Object"), (cB, .byte)] s := hK
          refine lv_aload_n hx hb d_SC_spellParts_68 rfl (lv_at hl 2 rfl) ?_
          refine lv_aload hx hb d_SC_spellParts_69 (lv_at hl 0 rfl) ?_
          have hPc := zz_pickP (pre := [(x, .inr (8, [.int wt, .int (emt wt (emz wt (emt wt (emz wt q (123 :: kT 6 false (ns.take i) (rs.take i))) 44) (strT (ns.getD i []))) 58).1, .int (emt wt (emz wt (emt wt (emz wt q (123 :: kT 6 false (ns.take i) (rs.take i))) 44) (strT (ns.getD i []))) 58).2]))]) (fz := fz) (wc := [(x, .inr (8, [.int wt, .int (emt wt (emz wt (emt wt (emz wt q (123 :: kT 6 false (ns.take i) (rs.take i))) 44) (strT (ns.getD i []))) 58).1, .int (emt wt (emz wt (emt wt (emz wt q (123 :: kT 6 false (ns.take i) (rs.take i))) 44) (strT (ns.getD i []))) 58).2]))]) hP [0] rfl
          have hDc := zz_pickD (pre := [(x, .inr (8, [.int wt, .int (emt wt (emz wt (emt wt (emz wt q (123 :: kT 6 false (ns.take i) (rs.take i))) 44) (strT (ns.getD i []))) 58).1, .int (emt wt (emz wt (emt wt (emz wt q (123 :: kT 6 false (ns.take i) (rs.take i))) 44) (strT (ns.getD i []))) 58).2]))]) (fz := fz) (wc := [(x, .inr (8, [.int wt, .int (emt wt (emz wt (emt wt (emz wt q (123 :: kT 6 false (ns.take i) (rs.take i))) 44) (strT (ns.getD i []))) 58).1, .int (emt wt (emz wt (emt wt (emz wt q (123 :: kT 6 false (ns.take i) (rs.take i))) 44) (strT (ns.getD i []))) 58).2]))]) hD [0] (by decide) rfl
          have hFc := zz_free (pre := [(x, .inr (8, [.int wt, .int (emt wt (emz wt (emt wt (emz wt q (123 :: kT 6 false (ns.take i) (rs.take i))) 44) (strT (ns.getD i []))) 58).1, .int (emt wt (emz wt (emt wt (emz wt q (123 :: kT 6 false (ns.take i) (rs.take i))) 44) (strT (ns.getD i []))) 58).2]))]) (fz := fz) (wc := [(x, .inr (8, [.int wt, .int (emt wt (emz wt (emt wt (emz wt q (123 :: kT 6 false (ns.take i) (rs.take i))) 44) (strT (ns.getD i []))) 58).1, .int (emt wt (emz wt (emt wt (emz wt q (123 :: kT 6 false (ns.take i) (rs.take i))) 44) (strT (ns.getD i []))) 58).2]))]) hD hS hA [0] rfl
          have hKc := hK.sub (tys' := [(cB, .byte), (cO, .object "java/lang/Object")]) [1, 0] rfl
          refine va_callv (va_runV (As := [.ref (xs.getD i 0)]) (rest := []) ⟨hx, hb, hml, hown, htb⟩ (HS l dC dI _ x wt (emt wt (emz wt (emt wt (emz wt q (123 :: kT 6 false (ns.take i) (rs.take i))) 44) (strT (ns.getD i []))) 58) (xs.getD i 0) (ns.getD i []) (rs.getD i []) cB cO em aK aV fz hvt) (cwV 1 htb (g_V (fun _ h => h) m_1076 m_1094 m_1075 m_1645 m_28) rfl rfl rfl (by decide +kernel) ⟨(by show ((6 + 2 * d) + 1) ≤ (7 + 2 * d); omega), (by show (22 + (150 + 60 * d)) ≤ (180 + 60 * d); omega)⟩) ⟨fun a U g mk q => by obtain ⟨q0, q1, qP, qK, qD, z0⟩ := q; exact ⟨q0, q1, qP, va_K.moved (u := U) (U := U.calling g mk a) (Vm.Alike.refl U.vm) qK, qD, EX.same (U := U) (U' := U.calling g mk a) rfl z0⟩, va_recv hK hP (ci := 8) rfl (q0 := 0) rfl, fun U hU hW => ⟨rfl, by rw [hU], by rw [hU]; exact hPc, va_K.moved hW.alike hKc, hDc.weaken (fun _ _ _ _ => trivial), by rw [hU]; exact EX.warm hW ((hE.kept (fun a h1 h2 => hS.2.1 a h1 h2)).narrow hFc)⟩⟩ rfl rfl hl.1 rfl (lv_room (Nat.le_of_ble_eq_true rfl)) d_SC_spellParts_71 ⟨Nat.le_of_ble_eq_true rfl, Nat.le_of_ble_eq_true rfl⟩) hS (fun q _ h => hFc q h) hFc (fun u25 t H1 locs ht hvm hw27 hB hz1 hk1 hS => ?_)
          obtain ⟨hP1, hK1, hD1⟩ := hB
          rw [ht] at hP1
          have hK1 := va_K.moved hvm.symm hK1
          have hw27 : True := hw27
          obtain ⟨hP, hD⟩ := zz_join (pre := [(x, .inr (8, [.int wt, .int (emt wt (emz wt (emt wt (emz wt q (123 :: kT 6 false (ns.take i) (rs.take i))) 44) (strT (ns.getD i []))) 58).1, .int (emt wt (emz wt (emt wt (emz wt q (123 :: kT 6 false (ns.take i) (rs.take i))) 44) (strT (ns.getD i []))) 58).2]))]) (fz := fz) (wc := [(x, .inr (8, [.int wt, .int (emt wt (emz wt (emt wt (emz wt q (123 :: kT 6 false (ns.take i) (rs.take i))) 44) (strT (ns.getD i []))) 58).1, .int (emt wt (emz wt (emt wt (emz wt q (123 :: kT 6 false (ns.take i) (rs.take i))) 44) (strT (ns.getD i []))) 58).2]))]) (wr := []) (w1 := ([(x, .inr (8, [.int wt, .int (emz wt (emt wt (emz wt (emt wt (emz wt q (123 :: kT 6 false (ns.take i) (rs.take i))) 44) (strT (ns.getD i []))) 58) (txt (rs.getD i []))).1, .int (emz wt (emt wt (emz wt (emt wt (emz wt q (123 :: kT 6 false (ns.take i) (rs.take i))) 44) (strT (ns.getD i []))) 58) (txt (rs.getD i []))).2]))] ++ fz)) hP hD [0] [] rfl rfl (by decide) (by decide) hk1 hFc hP1 hD1
          have hK := (hK.sub (tys' := []) [] rfl).app hK1
          generalize H1 = H at hP hS ⊢
          have hP : va_P (dC, dI) vwCl ([(x, .inr (8, [.int wt, .int (emz wt (emt wt (emz wt (emt wt (emz wt q (123 :: kT 6 false (ns.take i) (rs.take i))) 44) (strT (ns.getD i []))) 58) (txt (rs.getD i []))).1, .int (emz wt (emt wt (emz wt (emt wt (emz wt q (123 :: kT 6 false (ns.take i) (rs.take i))) 44) (strT (ns.getD i []))) 58) (txt (rs.getD i []))).2]))] ++ fz) H := hP
          have hD : va_D A ([(x, .inr (8, [.int wt, .int (emz wt (emt wt (emz wt (emt wt (emz wt q (123 :: kT 6 false (ns.take i) (rs.take i))) 44) (strT (ns.getD i []))) 58) (txt (rs.getD i []))).1, .int (emz wt (emt wt (emz wt (emt wt (emz wt q (123 :: kT 6 false (ns.take i) (rs.take i))) 44) (strT (ns.getD i []))) 58) (txt (rs.getD i []))).2]))] ++ fz) := hD
          have hK : va_K (dC, dI) vwCl [(cB, .byte), (cO, .object "java/lang/Object")] s := hK
          have hsn9 : kT 6 false (ns.take (i + 1)) (rs.take (i + 1)) = kT 6 false (ns.take i) (rs.take i) ++ ([44] ++ ((strT (ns.getD i []) ++ [58]) ++ txt (rs.getD i []))) := by rw [hsn, show (false || !(rs.take i).isEmpty) = true by rw [take_ne hi0 (by omega)]; rfl]; rfl
          rw [show (emz wt (emt wt (emz wt (emt wt (emz wt q (123 :: kT 6 false (ns.take i) (rs.take i))) 44) (strT (ns.getD i []))) 58) (txt (rs.getD i []))) = (emz wt q (123 :: kT 6 false (ns.take (i + 1)) (rs.take (i + 1)))) from by rw [hsn9, ← List.cons_append, emz_app]; simp only [emz, List.foldl_append, List.foldl_cons, List.foldl_nil]] at hP hD
          have hP : va_P (dC, dI) vwCl ([(x, .inr (8, [.int wt, .int (emz wt q (123 :: kT 6 false (ns.take (i + 1)) (rs.take (i + 1)))).1, .int (emz wt q (123 :: kT 6 false (ns.take (i + 1)) (rs.take (i + 1)))).2]))] ++ fz) H := hP
          have hD : va_D A ([(x, .inr (8, [.int wt, .int (emz wt q (123 :: kT 6 false (ns.take (i + 1)) (rs.take (i + 1)))).1, .int (emz wt q (123 :: kT 6 false (ns.take (i + 1)) (rs.take (i + 1)))).2]))] ++ fz) := hD
          refine lv_iinc (k := 1) (v := ((nI i) + Int32.ofInt 1)) hx hb d_SC_spellParts_74 hl rfl rfl (by decide) rfl (fun ls hl => ?_)
          have hl : lv_has ls 6 [(4, .int ((nI i) + Int32.ofInt 1)), (5, .ref (xs.getD i 0)), (0, .ref x), (1, .ref a), (2, .int 123), (3, .int 125)] := hl
          rw [show nI i + Int32.ofInt 1 = nI (i + 1) from nI_1 _] at hl
          refine lv_goto (tgt := 8) hx hb d_SC_spellParts_77 rfl ?_
          exact ih (xs.length - (i + 1)) (by omega) (i + 1) H locs ls rfl (by omega) (lv_sub hl [0, 2, 3, 4, 5] rfl) (zz_pickP (pre := [(x, .inr (8, [.int wt, .int (emz wt q (123 :: kT 6 false (ns.take (i + 1)) (rs.take (i + 1)))).1, .int (emz wt q (123 :: kT 6 false (ns.take (i + 1)) (rs.take (i + 1)))).2]))]) (fz := fz) (wc := [(x, .inr (8, [.int wt, .int (emz wt q (123 :: kT 6 false (ns.take (i + 1)) (rs.take (i + 1)))).1, .int (emz wt q (123 :: kT 6 false (ns.take (i + 1)) (rs.take (i + 1)))).2]))]) hP [0] rfl) (zz_pickD (pre := [(x, .inr (8, [.int wt, .int (emz wt q (123 :: kT 6 false (ns.take (i + 1)) (rs.take (i + 1)))).1, .int (emz wt q (123 :: kT 6 false (ns.take (i + 1)) (rs.take (i + 1)))).2]))]) (fz := fz) (wc := [(x, .inr (8, [.int wt, .int (emz wt q (123 :: kT 6 false (ns.take (i + 1)) (rs.take (i + 1)))).1, .int (emz wt q (123 :: kT 6 false (ns.take (i + 1)) (rs.take (i + 1)))).2]))]) hD [0] (by decide) rfl) hS
  exact hloop _ 0 _ _ ls rfl (Nat.zero_le _) (lv_sub hl [0, 1, 2, 3, 4] rfl) (zz_pickP (pre := [(x, .inr (8, [.int wt, .int (emz wt q (123 :: kT 6 false (ns.take 0) (rs.take 0))).1, .int (emz wt q (123 :: kT 6 false (ns.take 0) (rs.take 0))).2]))]) (fz := fz) (wc := [(x, .inr (8, [.int wt, .int (emz wt q (123 :: kT 6 false (ns.take 0) (rs.take 0))).1, .int (emz wt q (123 :: kT 6 false (ns.take 0) (rs.take 0))).2]))]) hP [0] rfl) (zz_pickD (pre := [(x, .inr (8, [.int wt, .int (emz wt q (123 :: kT 6 false (ns.take 0) (rs.take 0))).1, .int (emz wt q (123 :: kT 6 false (ns.take 0) (rs.take 0))).2]))]) (fz := fz) (wc := [(x, .inr (8, [.int wt, .int (emz wt q (123 :: kT 6 false (ns.take 0) (rs.take 0))).1, .int (emz wt q (123 :: kT 6 false (ns.take 0) (rs.take 0))).2]))]) hD [0] (by decide) rfl) hS
