set_option maxHeartbeats 1000000 in
set_option maxRecDepth 100000 in
theorem q_PS_isDigit (l : Launch) (dC : Nat → ClassId) (dI : Nat → Nat → Nat) (k : Nat) (hk : k < 128) : Met l y_PS_isDigit ws_PS_isDigit ({ frames := 0, cells := 0, slots := 0, locals := 0 }) (va_Pc [.int (nI k)] (fun U => va_P (dC, dI) vwCl [] U.heap ∧ va_K (dC, dI) vwCl [] U)) (vp_Si (fun (r : Int32) => r = bI (isDig k))) 0 0 (fun _ => False) := by
  refine Met.ofW (cc := c_PS_isDigit) (maxL := 1) (ret := (some .boolean)) (by decide) rfl ?_
  intro p e s m args below meth c s₁ B hml hv
  obtain ⟨rfl, hP, hK⟩ := hv
  have hx := B.exec
  have hb := B.bytes
  have hr := B.returns
  have hts := atoms_spec (ws := ws_PS_isDigit) B.pre
  have htb := fun w (h : w ∈ TBL) => hts w (List.mem_cons_of_mem _ h)
  have hown : s.vm.findClass R_PS = some m.cls := findClass_of_methodNamed B.named
  have hlocks := B.notSynchronized
  have hl := lv_entry ([.int (nI k)]) (n := 1) (Nat.le_of_ble_eq_true rfl)
  rw [lg_entry_eq]
  generalize (lg_sl ([.int (nI k)]) ++ List.replicate (1 - (lg_sl ([.int (nI k)])).length) Slot.unset).toArray = ls at hl ⊢
  have hl : lv_has ls 1 [(0, .int (nI k))] := hl
  refine lv_iload_n hx hb d_PS_isDigit_0 rfl (lv_at hl 0 rfl) ?_
  refine lv_bipush (v := 48) hx hb d_PS_isDigit_1 (by decide) ?_
  refine lv_icmp_lt (tgt := 16) hx hb d_PS_isDigit_3 rfl (fun h1 => ?_) (fun h1 => ?_)
  · have h1 : k < 48 := (nI_ltI (by omega) (by decide)).mp h1
    refine lv_iconst (v := 0) hx hb d_PS_isDigit_16 (by decide) ?_
    exact W.zret (v := 0) hx hb hr (by decide) (fun t ht hW => ⟨0, rfl, by rw [show isDig k = false by simp [isDig]; omega]; rfl, ht⟩) (fun q h => absurd h List.not_mem_nil) d_PS_isDigit_17
  · have h1 : ¬ k < 48 := fun h => h1 ((nI_ltI (by omega) (by decide)).mpr h)
    refine lv_iload_n hx hb d_PS_isDigit_6 rfl (lv_at hl 0 rfl) ?_
    refine lv_bipush (v := 57) hx hb d_PS_isDigit_7 (by decide) ?_
    refine lv_icmp_gt (tgt := 16) hx hb d_PS_isDigit_9 rfl (fun h2 => ?_) (fun h2 => ?_)
    · have h2 : 57 < k := (nI_ltI (by decide) (by omega)).mp h2
      refine lv_iconst (v := 0) hx hb d_PS_isDigit_16 (by decide) ?_
      exact W.zret (v := 0) hx hb hr (by decide) (fun t ht hW => ⟨0, rfl, by rw [show isDig k = false by simp [isDig]; omega]; rfl, ht⟩) (fun q h => absurd h List.not_mem_nil) d_PS_isDigit_17
    · have h2 : ¬ 57 < k := fun h => h2 ((nI_ltI (by decide) (by omega)).mpr h)
      refine lv_iconst (v := 1) hx hb d_PS_isDigit_12 (by decide) ?_
      refine lv_goto (tgt := 17) hx hb d_PS_isDigit_13 rfl ?_
      exact W.zret (v := 1) hx hb hr (by decide) (fun t ht hW => ⟨1, rfl, by rw [show isDig k = true by simp [isDig]; omega]; rfl, ht⟩) (fun q h => absurd h List.not_mem_nil) d_PS_isDigit_17
set_option maxHeartbeats 1000000 in
set_option maxRecDepth 100000 in
theorem q_PS_isLetter (l : Launch) (dC : Nat → ClassId) (dI : Nat → Nat → Nat) (k : Nat) (hk : k < 128) : Met l y_PS_isLetter ws_PS_isLetter ({ frames := 0, cells := 0, slots := 0, locals := 0 }) (va_Pc [.int (nI k)] (fun U => va_P (dC, dI) vwCl [] U.heap ∧ va_K (dC, dI) vwCl [] U)) (vp_Si (fun (r : Int32) => r = bI (isLet k))) 0 0 (fun _ => False) := by
  refine Met.ofW (cc := c_PS_isLetter) (maxL := 1) (ret := (some .boolean)) (by decide) rfl ?_
  intro p e s m args below meth c s₁ B hml hv
  obtain ⟨rfl, hP, hK⟩ := hv
  have hx := B.exec
  have hb := B.bytes
  have hr := B.returns
  have hts := atoms_spec (ws := ws_PS_isLetter) B.pre
  have htb := fun w (h : w ∈ TBL) => hts w (List.mem_cons_of_mem _ h)
  have hown : s.vm.findClass R_PS = some m.cls := findClass_of_methodNamed B.named
  have hlocks := B.notSynchronized
  have hl := lv_entry ([.int (nI k)]) (n := 1) (Nat.le_of_ble_eq_true rfl)
  rw [lg_entry_eq]
  generalize (lg_sl ([.int (nI k)]) ++ List.replicate (1 - (lg_sl ([.int (nI k)])).length) Slot.unset).toArray = ls at hl ⊢
  have hl : lv_has ls 1 [(0, .int (nI k))] := hl
  refine lv_iload_n hx hb d_PS_isLetter_0 rfl (lv_at hl 0 rfl) ?_
  refine lv_bipush (v := 97) hx hb d_PS_isLetter_1 (by decide) ?_
  refine lv_icmp_lt (tgt := 12) hx hb d_PS_isLetter_3 rfl (fun h1 => ?_) (fun h1 => ?_)
  · have h1 : k < 97 := (nI_ltI (by omega) (by decide)).mp h1
    refine lv_iload_n hx hb d_PS_isLetter_12 rfl (lv_at hl 0 rfl) ?_
    refine lv_bipush (v := 65) hx hb d_PS_isLetter_13 (by decide) ?_
    refine lv_icmp_lt (tgt := 24) hx hb d_PS_isLetter_15 rfl (fun h3 => ?_) (fun h3 => ?_)
    · have h3 : k < 65 := (nI_ltI (by omega) (by decide)).mp h3
      refine lv_iload_n hx hb d_PS_isLetter_24 rfl (lv_at hl 0 rfl) ?_
      refine lv_bipush (v := 95) hx hb d_PS_isLetter_25 (by decide) ?_
      refine lv_icmp_ne (tgt := 34) hx hb d_PS_isLetter_27 rfl (fun h5 => ?_) (fun h5 => ?_)
      · have h5 : ¬ k = 95 := fun h => h5 (by rw [h]; rfl)
        refine lv_iconst (v := 0) hx hb d_PS_isLetter_34 (by decide) ?_
        exact W.zret (v := 0) hx hb hr (by decide) (fun t ht hW => ⟨0, rfl, by rw [show isLet k = false by simp [isLet]; omega]; rfl, ht⟩) (fun q h => absurd h List.not_mem_nil) d_PS_isLetter_35
      · have h5 : k = 95 := (nI_eq (by omega) (by decide)).mp h5
        refine lv_iconst (v := 1) hx hb d_PS_isLetter_30 (by decide) ?_
        refine lv_goto (tgt := 35) hx hb d_PS_isLetter_31 rfl ?_
        exact W.zret (v := 1) hx hb hr (by decide) (fun t ht hW => ⟨1, rfl, by rw [show isLet k = true by simp [isLet]; omega]; rfl, ht⟩) (fun q h => absurd h List.not_mem_nil) d_PS_isLetter_35
    · have h3 : ¬ k < 65 := fun h => h3 ((nI_ltI (by omega) (by decide)).mpr h)
      refine lv_iload_n hx hb d_PS_isLetter_18 rfl (lv_at hl 0 rfl) ?_
      refine lv_bipush (v := 90) hx hb d_PS_isLetter_19 (by decide) ?_
      refine lv_icmp_le (tgt := 30) hx hb d_PS_isLetter_21 rfl (fun h4 => ?_) (fun h4 => ?_)
      · have h4 : k ≤ 90 := (nI_leI (by omega) (by decide)).mp h4
        refine lv_iconst (v := 1) hx hb d_PS_isLetter_30 (by decide) ?_
        refine lv_goto (tgt := 35) hx hb d_PS_isLetter_31 rfl ?_
        exact W.zret (v := 1) hx hb hr (by decide) (fun t ht hW => ⟨1, rfl, by rw [show isLet k = true by simp [isLet]; omega]; rfl, ht⟩) (fun q h => absurd h List.not_mem_nil) d_PS_isLetter_35
      · have h4 : ¬ k ≤ 90 := fun h => h4 ((nI_leI (by omega) (by decide)).mpr h)
        refine lv_iload_n hx hb d_PS_isLetter_24 rfl (lv_at hl 0 rfl) ?_
        refine lv_bipush (v := 95) hx hb d_PS_isLetter_25 (by decide) ?_
        refine lv_icmp_ne (tgt := 34) hx hb d_PS_isLetter_27 rfl (fun h5 => ?_) (fun h5 => ?_)
        · have h5 : ¬ k = 95 := fun h => h5 (by rw [h]; rfl)
          refine lv_iconst (v := 0) hx hb d_PS_isLetter_34 (by decide) ?_
          exact W.zret (v := 0) hx hb hr (by decide) (fun t ht hW => ⟨0, rfl, by rw [show isLet k = false by simp [isLet]; omega]; rfl, ht⟩) (fun q h => absurd h List.not_mem_nil) d_PS_isLetter_35
        · have h5 : k = 95 := (nI_eq (by omega) (by decide)).mp h5
          refine lv_iconst (v := 1) hx hb d_PS_isLetter_30 (by decide) ?_
          refine lv_goto (tgt := 35) hx hb d_PS_isLetter_31 rfl ?_
          exact W.zret (v := 1) hx hb hr (by decide) (fun t ht hW => ⟨1, rfl, by rw [show isLet k = true by simp [isLet]; omega]; rfl, ht⟩) (fun q h => absurd h List.not_mem_nil) d_PS_isLetter_35
  · have h1 : ¬ k < 97 := fun h => h1 ((nI_ltI (by omega) (by decide)).mpr h)
    refine lv_iload_n hx hb d_PS_isLetter_6 rfl (lv_at hl 0 rfl) ?_
    refine lv_bipush (v := 122) hx hb d_PS_isLetter_7 (by decide) ?_
    refine lv_icmp_le (tgt := 30) hx hb d_PS_isLetter_9 rfl (fun h2 => ?_) (fun h2 => ?_)
    · have h2 : k ≤ 122 := (nI_leI (by omega) (by decide)).mp h2
      refine lv_iconst (v := 1) hx hb d_PS_isLetter_30 (by decide) ?_
      refine lv_goto (tgt := 35) hx hb d_PS_isLetter_31 rfl ?_
      exact W.zret (v := 1) hx hb hr (by decide) (fun t ht hW => ⟨1, rfl, by rw [show isLet k = true by simp [isLet]; omega]; rfl, ht⟩) (fun q h => absurd h List.not_mem_nil) d_PS_isLetter_35
    · have h2 : ¬ k ≤ 122 := fun h => h2 ((nI_leI (by omega) (by decide)).mpr h)
      refine lv_iload_n hx hb d_PS_isLetter_12 rfl (lv_at hl 0 rfl) ?_
      refine lv_bipush (v := 65) hx hb d_PS_isLetter_13 (by decide) ?_
      refine lv_icmp_lt (tgt := 24) hx hb d_PS_isLetter_15 rfl (fun h3 => ?_) (fun h3 => ?_)
      · have h3 : k < 65 := (nI_ltI (by omega) (by decide)).mp h3
        refine lv_iload_n hx hb d_PS_isLetter_24 rfl (lv_at hl 0 rfl) ?_
        refine lv_bipush (v := 95) hx hb d_PS_isLetter_25 (by decide) ?_
        refine lv_icmp_ne (tgt := 34) hx hb d_PS_isLetter_27 rfl (fun h5 => ?_) (fun h5 => ?_)
        · have h5 : ¬ k = 95 := fun h => h5 (by rw [h]; rfl)
          refine lv_iconst (v := 0) hx hb d_PS_isLetter_34 (by decide) ?_
          exact W.zret (v := 0) hx hb hr (by decide) (fun t ht hW => ⟨0, rfl, by rw [show isLet k = false by simp [isLet]; omega]; rfl, ht⟩) (fun q h => absurd h List.not_mem_nil) d_PS_isLetter_35
        · have h5 : k = 95 := (nI_eq (by omega) (by decide)).mp h5
          refine lv_iconst (v := 1) hx hb d_PS_isLetter_30 (by decide) ?_
          refine lv_goto (tgt := 35) hx hb d_PS_isLetter_31 rfl ?_
          exact W.zret (v := 1) hx hb hr (by decide) (fun t ht hW => ⟨1, rfl, by rw [show isLet k = true by simp [isLet]; omega]; rfl, ht⟩) (fun q h => absurd h List.not_mem_nil) d_PS_isLetter_35
      · have h3 : ¬ k < 65 := fun h => h3 ((nI_ltI (by omega) (by decide)).mpr h)
        refine lv_iload_n hx hb d_PS_isLetter_18 rfl (lv_at hl 0 rfl) ?_
        refine lv_bipush (v := 90) hx hb d_PS_isLetter_19 (by decide) ?_
        refine lv_icmp_le (tgt := 30) hx hb d_PS_isLetter_21 rfl (fun h4 => ?_) (fun h4 => ?_)
        · have h4 : k ≤ 90 := (nI_leI (by omega) (by decide)).mp h4
          refine lv_iconst (v := 1) hx hb d_PS_isLetter_30 (by decide) ?_
          refine lv_goto (tgt := 35) hx hb d_PS_isLetter_31 rfl ?_
          exact W.zret (v := 1) hx hb hr (by decide) (fun t ht hW => ⟨1, rfl, by rw [show isLet k = true by simp [isLet]; omega]; rfl, ht⟩) (fun q h => absurd h List.not_mem_nil) d_PS_isLetter_35
        · have h4 : ¬ k ≤ 90 := fun h => h4 ((nI_leI (by omega) (by decide)).mpr h)
          refine lv_iload_n hx hb d_PS_isLetter_24 rfl (lv_at hl 0 rfl) ?_
          refine lv_bipush (v := 95) hx hb d_PS_isLetter_25 (by decide) ?_
          refine lv_icmp_ne (tgt := 34) hx hb d_PS_isLetter_27 rfl (fun h5 => ?_) (fun h5 => ?_)
          · have h5 : ¬ k = 95 := fun h => h5 (by rw [h]; rfl)
            refine lv_iconst (v := 0) hx hb d_PS_isLetter_34 (by decide) ?_
            exact W.zret (v := 0) hx hb hr (by decide) (fun t ht hW => ⟨0, rfl, by rw [show isLet k = false by simp [isLet]; omega]; rfl, ht⟩) (fun q h => absurd h List.not_mem_nil) d_PS_isLetter_35
          · have h5 : k = 95 := (nI_eq (by omega) (by decide)).mp h5
            refine lv_iconst (v := 1) hx hb d_PS_isLetter_30 (by decide) ?_
            refine lv_goto (tgt := 35) hx hb d_PS_isLetter_31 rfl ?_
            exact W.zret (v := 1) hx hb hr (by decide) (fun t ht hW => ⟨1, rfl, by rw [show isLet k = true by simp [isLet]; omega]; rfl, ht⟩) (fun q h => absurd h List.not_mem_nil) d_PS_isLetter_35
set_option maxHeartbeats 1000000 in
set_option maxRecDepth 100000 in
/-- ahead() -/
theorem q_CU_ahead (l : Launch) (dC : Nat → ClassId) (dI : Nat → Nat → Nat) (x : Nat) (dl : Nat) (sb : Nat) (cC : ClassId) (f : Nat → Int32) (L : List Nat) (a : Nat) (hL : Drf L f) (ha : a ≤ L.length) : Met l y_CU_ahead ws_CU_ahead ({ frames := 0, cells := 0, slots := 0, locals := 0 }) (va_Pc [.ref x] (fun U => va_P (dC, dI) vwCl [(x, .inr (1, [.ref dl, .int (nI L.length), .int (nI a), .ref sb])), (dl, .inl (cC, 160, .inl f))] U.heap ∧ va_K (dC, dI) vwCl [(cC, .char)] U)) (vp_Si (fun (r : Int32) => r = nI (L.getD a 0))) 0 0 (fun _ => False) := by
  refine Met.ofW (cc := c_CU_ahead) (maxL := 1) (ret := (some .char)) (by decide) rfl ?_
  intro p e s m args below meth c s₁ B hml hv
  obtain ⟨rfl, hP, hK⟩ := hv
  have hx := B.exec
  have hb := B.bytes
  have hr := B.returns
  have hts := atoms_spec (ws := ws_CU_ahead) B.pre
  have htb := fun w (h : w ∈ TBL) => hts w (List.mem_cons_of_mem _ h)
  have hown : s.vm.findClass R_CU = some m.cls := findClass_of_methodNamed B.named
  have hlocks := B.notSynchronized
  have hl := lv_entry ([.ref x]) (n := 1) (Nat.le_of_ble_eq_true rfl)
  rw [lg_entry_eq]
  generalize (lg_sl ([.ref x]) ++ List.replicate (1 - (lg_sl ([.ref x])).length) Slot.unset).toArray = ls at hl ⊢
  have hl : lv_has ls 1 [(0, .ref x)] := hl
  have h160 : L.length ≤ 160 := hL.1
  refine lv_aload_n hx hb d_CU_ahead_0 rfl (lv_at hl 0 rfl) ?_
  refine va_get (D := (dC, dI)) (ci := 1) (v := .int (nI a)) (C := R_CU) (T := T_CU) (N := 4) hx hb htb in_CU hown hK hP 0 rfl rfl 2 (by decide) (htb _ m_144) (fun _ h9 => h9) rfl d_CU_ahead_1 ?_
  refine lv_aload_n hx hb d_CU_ahead_4 rfl (lv_at hl 0 rfl) ?_
  refine va_get (D := (dC, dI)) (ci := 1) (v := .int (nI L.length)) (C := R_CU) (T := T_CU) (N := 4) hx hb htb in_CU hown hK hP 0 rfl rfl 1 (by decide) (htb _ m_143) (fun _ h9 => h9) rfl d_CU_ahead_5 ?_
  refine lv_icmp_ge (tgt := 23) hx hb d_CU_ahead_8 rfl (fun h1 => ?_) (fun h1 => ?_)
  · have h1 : L.length ≤ a := (nI_leI (by omega) (by omega)).mp h1
    refine lv_iconst (v := 0) hx hb d_CU_ahead_23 (by decide) ?_
    exact W.zret (v := 0) hx hb hr (by decide) (fun t ht hW => ⟨0, rfl, by rw [getD_end h1]; rfl, ht⟩) (fun q h => absurd h List.not_mem_nil) d_CU_ahead_24
  · have h1 : a < L.length := Nat.not_le.mp (fun h => h1 ((nI_leI (by omega) (by omega)).mpr h))
    have hcl := hL.lt a
    refine lv_aload_n hx hb d_CU_ahead_11 rfl (lv_at hl 0 rfl) ?_
    refine va_get (D := (dC, dI)) (ci := 1) (v := .ref dl) (C := R_CU) (T := T_CU) (N := 4) hx hb htb in_CU hown hK hP 0 rfl rfl 0 (by decide) (htb _ m_142) (fun _ h9 => h9) rfl d_CU_ahead_12 ?_
    refine lv_aload_n hx hb d_CU_ahead_15 rfl (lv_at hl 0 rfl) ?_
    refine va_get (D := (dC, dI)) (ci := 1) (v := .int (nI a)) (C := R_CU) (T := T_CU) (N := 4) hx hb htb in_CU hown hK hP 0 rfl rfl 2 (by decide) (htb _ m_144) (fun _ h9 => h9) rfl d_CU_ahead_16 ?_
    refine va_cald hx hb hK hP 1 0 rfl rfl (vp_in_nI (by omega) (by omega)) d_CU_ahead_19 ?_
    refine W.eq (congrArg (fun z => F0 m 20 ls (.int z :: [])) (by rw [nI_clamp (by omega)]; exact hL.2.2 _ h1 : (f (nI a).toNatClampNeg) = nI (L.getD a 0))) ?_
    refine lv_goto (tgt := 24) hx hb d_CU_ahead_20 rfl ?_
    exact W.zret (v := (nI (L.getD a 0))) hx hb hr ((pk_charN (by omega)).1) (fun t ht hW => ⟨(nI (L.getD a 0)), rfl, rfl, ht⟩) (fun q h => absurd h List.not_mem_nil) d_CU_ahead_24
set_option maxHeartbeats 1000000 in
set_option maxRecDepth 100000 in
/-- took(c) -/
theorem k_CU_took (l : Launch) (dC : Nat → ClassId) (dI : Nat → Nat → Nat) (sz : Nat) (x : Nat) (dl : Nat) (sb : Nat) (cC : ClassId) (f : Nat → Int32) (L : List Nat) (a : Nat) (k : Nat) (hL : Drf L f) (ha : a ≤ L.length) (hk : 0 < k) (hk2 : k < 128) : Met l y_CU_took ws_CU_took ({ frames := 0, cells := 0, slots := 0, locals := 0 }) (va_Pc [.ref x, .int (nI k)] (fun U => U.heap.size = sz ∧ va_P (dC, dI) vwCl [(x, .inr (1, [.ref dl, .int (nI L.length), .int (nI a), .ref sb])), (dl, .inl (cC, 160, .inl f))] U.heap ∧ va_K (dC, dI) vwCl [(cC, .char)] U ∧ va_D (fun _ => True) [(x, .inr (1, [.ref dl, .int (nI L.length), .int (nI a), .ref sb])), (dl, .inl (cC, 160, .inl f))])) (va_Qi (fun (r : Int32) (u : Nat) => (r = 1 ∧ L.getD a 0 = k ∧ a < L.length ∧ u = a + 1) ∨ (r = 0 ∧ L.getD a 0 ≠ k ∧ u = a)) (fun u t => va_P (dC, dI) vwCl [(x, .inr (1, [.ref dl, .int (nI L.length), .int (nI u), .ref sb])), (dl, .inl (cC, 160, .inl f))] t.heap ∧ va_K (dC, dI) vwCl [(cC, .char)] t ∧ va_D (va_A [(x, .inr (1, [.ref dl, .int (nI L.length), .int (nI a), .ref sb])), (dl, .inl (cC, 160, .inl f))] sz) [(x, .inr (1, [.ref dl, .int (nI L.length), .int (nI u), .ref sb])), (dl, .inl (cC, 160, .inl f))]) (va_A [(x, .inr (1, [.ref dl, .int (nI L.length), .int (nI a), .ref sb])), (dl, .inl (cC, 160, .inl f))] sz)) 0 0 (va_A [(x, .inr (1, [.ref dl, .int (nI L.length), .int (nI a), .ref sb])), (dl, .inl (cC, 160, .inl f))] sz) := by
  refine Met.ofW (cc := c_CU_took) (maxL := 2) (ret := (some .boolean)) (by decide) rfl ?_
  intro p e s m args below meth c s₁ B hml hv
  obtain ⟨rfl, hsz, hP, hK, hD0⟩ := hv
  have hx := B.exec
  have hb := B.bytes
  have hr := B.returns
  have hts := atoms_spec (ws := ws_CU_took) B.pre
  have htb := fun w (h : w ∈ TBL) => hts w (List.mem_cons_of_mem _ h)
  have hown : s.vm.findClass R_CU = some m.cls := findClass_of_methodNamed B.named
  have hlocks := B.notSynchronized
  subst hsz
  have hD := hD0.self (sz := s.heap.size)
  generalize hAe : va_A [(x, .inr (1, [.ref dl, .int (nI L.length), .int (nI a), .ref sb])), (dl, .inl (cC, 160, .inl f))] s.heap.size = A at hD ⊢
  have hA : ∀ q : Nat, s.heap.size ≤ q → A q := fun q h => by rw [← hAe]; exact Or.inr h
  have hS : va_S A s.heap s.heap [] := va_S.rf
  have hP : va_P (dC, dI) vwCl [(x, .inr (1, [.ref dl, .int (nI L.length), .int (nI a), .ref sb])), (dl, .inl (cC, 160, .inl f))] s.heap := hP
  have hl := lv_entry ([.ref x, .int (nI k)]) (n := 2) (Nat.le_of_ble_eq_true rfl)
  rw [lg_entry_eq]
  generalize (lg_sl ([.ref x, .int (nI k)]) ++ List.replicate (2 - (lg_sl ([.ref x, .int (nI k)])).length) Slot.unset).toArray = ls at hl ⊢
  have hl : lv_has ls 2 [(0, .ref x), (1, .int (nI k))] := hl
  have h160 : L.length ≤ 160 := hL.1
  have hcl := hL.lt a
  refine lv_aload_n hx hb d_CU_took_0 rfl (lv_at hl 0 rfl) ?_
  refine va_get (D := (dC, dI)) (ci := 1) (v := .int (nI a)) (C := R_CU) (T := T_CU) (N := 4) hx hb htb in_CU hown hK hP 0 rfl rfl 2 (by decide) (htb _ m_144) (fun _ h9 => h9) rfl d_CU_took_1 ?_
  refine lv_aload_n hx hb d_CU_took_4 rfl (lv_at hl 0 rfl) ?_
  refine va_get (D := (dC, dI)) (ci := 1) (v := .int (nI L.length)) (C := R_CU) (T := T_CU) (N := 4) hx hb htb in_CU hown hK hP 0 rfl rfl 1 (by decide) (htb _ m_143) (fun _ h9 => h9) rfl d_CU_took_5 ?_
  refine lv_icmp_ge (tgt := 24) hx hb d_CU_took_8 rfl (fun h1 => ?_) (fun h1 => ?_)
  · have h1 : L.length ≤ a := (nI_leI (by omega) (by omega)).mp h1
    refine lv_iconst (v := 0) hx hb d_CU_took_24 (by decide) ?_
    have hP9 := hP.sub (ws' := [(x, .inr (1, [.ref dl, .int (nI L.length), .int (nI a), .ref sb])), (dl, .inl (cC, 160, .inl f))]) [0, 1] rfl
    have hD9 := hD.sub (ws' := [(x, .inr (1, [.ref dl, .int (nI L.length), .int (nI a), .ref sb])), (dl, .inl (cC, 160, .inl f))]) [0, 1] (by decide) rfl
    have hK9 := hK.sub (tys' := [(cC, .char)]) [0] rfl
    refine W.widen (k := 0) (n := 0) (Nat.le_of_ble_eq_true rfl) (Nat.le_of_ble_eq_true rfl) ?_
    exact W.zret (v := 0) hx hb hr (by decide) (fun t ht hW => ⟨⟨0, a, rfl, Or.inr ⟨rfl, by rw [getD_end h1]; omega, rfl⟩, ⟨by rw [ht]; exact hP9, va_K.moved hW.alike hK9, hD9⟩⟩, hS.F ht⟩) hS.2.2 d_CU_took_25
  · have h1 : a < L.length := Nat.not_le.mp (fun h => h1 ((nI_leI (by omega) (by omega)).mpr h))
    refine lv_aload_n hx hb d_CU_took_11 rfl (lv_at hl 0 rfl) ?_
    refine va_get (D := (dC, dI)) (ci := 1) (v := .ref dl) (C := R_CU) (T := T_CU) (N := 4) hx hb htb in_CU hown hK hP 0 rfl rfl 0 (by decide) (htb _ m_142) (fun _ h9 => h9) rfl d_CU_took_12 ?_
    refine lv_aload_n hx hb d_CU_took_15 rfl (lv_at hl 0 rfl) ?_
    refine va_get (D := (dC, dI)) (ci := 1) (v := .int (nI a)) (C := R_CU) (T := T_CU) (N := 4) hx hb htb in_CU hown hK hP 0 rfl rfl 2 (by decide) (htb _ m_144) (fun _ h9 => h9) rfl d_CU_took_16 ?_
    refine va_cald hx hb hK hP 1 0 rfl rfl (vp_in_nI (by omega) (by omega)) d_CU_took_19 ?_
    refine W.eq (congrArg (fun z => F0 m 20 ls (.int z :: [])) (by rw [nI_clamp (by omega)]; exact hL.2.2 _ h1 : (f (nI a).toNatClampNeg) = nI (L.getD a 0))) ?_
    refine lv_iload_n hx hb d_CU_took_20 rfl (lv_at hl 1 rfl) ?_
    refine lv_icmp_eq (tgt := 26) hx hb d_CU_took_21 rfl (fun h2 => ?_) (fun h2 => ?_)
    · have h2 : L.getD a 0 = k := (nI_eq (by omega) (by omega)).mp h2
      refine lv_aload_n hx hb d_CU_took_26 rfl (lv_at hl 0 rfl) ?_
      refine lv_dup hx hb d_CU_took_27 rfl ?_
      refine va_get (D := (dC, dI)) (ci := 1) (v := .int (nI a)) (C := R_CU) (T := T_CU) (N := 4) hx hb htb in_CU hown hK hP 0 rfl rfl 2 (by decide) (htb _ m_144) (fun _ h9 => h9) rfl d_CU_took_28 ?_
      refine lv_iconst (v := 1) hx hb d_CU_took_31 (by decide) ?_
      refine lv_iadd hx hb d_CU_took_32 ?_
      refine W.eq (congrArg (fun z => F0 m 33 ls (.int z :: [.ref x])) (nI_1 _ : ((nI a) + 1) = nI (a + 1))) ?_
      refine va_put (D := (dC, dI)) (ci := 1) (v := .int (nI (a + 1))) (ty := .int) (C := R_CU) (T := T_CU) (N := 4) hx hb htb in_CU ty_CU ty_CU_ok nm_CU hown hK hP hD hS 0 rfl rfl 2 (by decide) (htb _ m_144) (fun _ h9 => h9) rfl (by decide +kernel) rfl rfl (Nat.le_of_ble_eq_true rfl) d_CU_took_33 (fun H locs hP hD hS => ?_)
      have hP : va_P (dC, dI) vwCl [(x, .inr (1, [.ref dl, .int (nI L.length), .int (nI (a + 1)), .ref sb])), (dl, .inl (cC, 160, .inl f))] H := hP
      have hD : va_D A [(x, .inr (1, [.ref dl, .int (nI L.length), .int (nI (a + 1)), .ref sb])), (dl, .inl (cC, 160, .inl f))] := hD
      refine lv_iconst (v := 1) hx hb d_CU_took_36 (by decide) ?_
      have hP9 := hP.sub (ws' := [(x, .inr (1, [.ref dl, .int (nI L.length), .int (nI (a + 1)), .ref sb])), (dl, .inl (cC, 160, .inl f))]) [0, 1] rfl
      have hD9 := hD.sub (ws' := [(x, .inr (1, [.ref dl, .int (nI L.length), .int (nI (a + 1)), .ref sb])), (dl, .inl (cC, 160, .inl f))]) [0, 1] (by decide) rfl
      have hK9 := hK.sub (tys' := [(cC, .char)]) [0] rfl
      refine W.widen (k := 0) (n := 0) (Nat.le_of_ble_eq_true rfl) (Nat.le_of_ble_eq_true rfl) ?_
      exact W.zret (v := 1) hx hb hr (by decide) (fun t ht hW => ⟨⟨1, (a + 1), rfl, Or.inl ⟨rfl, h2, h1, rfl⟩, ⟨by rw [ht]; exact hP9, va_K.moved hW.alike hK9, hD9⟩⟩, hS.F ht⟩) hS.2.2 d_CU_took_37
    · refine lv_iconst (v := 0) hx hb d_CU_took_24 (by decide) ?_
      have hP9 := hP.sub (ws' := [(x, .inr (1, [.ref dl, .int (nI L.length), .int (nI a), .ref sb])), (dl, .inl (cC, 160, .inl f))]) [0, 1] rfl
      have hD9 := hD.sub (ws' := [(x, .inr (1, [.ref dl, .int (nI L.length), .int (nI a), .ref sb])), (dl, .inl (cC, 160, .inl f))]) [0, 1] (by decide) rfl
      have hK9 := hK.sub (tys' := [(cC, .char)]) [0] rfl
      refine W.widen (k := 0) (n := 0) (Nat.le_of_ble_eq_true rfl) (Nat.le_of_ble_eq_true rfl) ?_
      exact W.zret (v := 0) hx hb hr (by decide) (fun t ht hW => ⟨⟨0, a, rfl, Or.inr ⟨rfl, fun h => h2 (by rw [h]), rfl⟩, ⟨by rw [ht]; exact hP9, va_K.moved hW.alike hK9, hD9⟩⟩, hS.F ht⟩) hS.2.2 d_CU_took_25
set_option maxHeartbeats 1000000 in
set_option maxRecDepth 100000 in
/-- skipBlanks() -/
theorem k_CU_skipBlanks (l : Launch) (dC : Nat → ClassId) (dI : Nat → Nat → Nat) (sz : Nat) (x : Nat) (dl : Nat) (sb : Nat) (cC : ClassId) (f : Nat → Int32) (L : List Nat) (a : Nat) (hL : Drf L f) (ha : a ≤ L.length) : Met l y_CU_skipBlanks ws_CU_skipBlanks ({ frames := 0, cells := 0, slots := 0, locals := 0 }) (va_Pc [.ref x] (fun U => U.heap.size = sz ∧ va_P (dC, dI) vwCl [(x, .inr (1, [.ref dl, .int (nI L.length), .int (nI a), .ref sb])), (dl, .inl (cC, 160, .inl f))] U.heap ∧ va_K (dC, dI) vwCl [(cC, .char)] U ∧ va_D (fun _ => True) [(x, .inr (1, [.ref dl, .int (nI L.length), .int (nI a), .ref sb])), (dl, .inl (cC, 160, .inl f))])) (va_Qv (fun (u : Nat) => L.drop u = skp (L.drop a) ∧ a ≤ u ∧ u ≤ L.length) (fun u t => va_P (dC, dI) vwCl [(x, .inr (1, [.ref dl, .int (nI L.length), .int (nI u), .ref sb])), (dl, .inl (cC, 160, .inl f))] t.heap ∧ va_K (dC, dI) vwCl [(cC, .char)] t ∧ va_D (va_A [(x, .inr (1, [.ref dl, .int (nI L.length), .int (nI a), .ref sb])), (dl, .inl (cC, 160, .inl f))] sz) [(x, .inr (1, [.ref dl, .int (nI L.length), .int (nI u), .ref sb])), (dl, .inl (cC, 160, .inl f))]) (va_A [(x, .inr (1, [.ref dl, .int (nI L.length), .int (nI a), .ref sb])), (dl, .inl (cC, 160, .inl f))] sz)) 0 0 (va_A [(x, .inr (1, [.ref dl, .int (nI L.length), .int (nI a), .ref sb])), (dl, .inl (cC, 160, .inl f))] sz) := by
  refine Met.ofW (cc := c_CU_skipBlanks) (maxL := 1) (ret := none) (by decide) rfl ?_
  intro p e s m args below meth c s₁ B hml hv
  obtain ⟨hargs, hsz, hP, hK, hD0⟩ := hv
  rw [show entryFrame m args 1 = entryFrame m ([.ref x]).toArray 1 by rw [hargs]]
  have hx := B.exec
  have hb := B.bytes
  have hr := B.returns
  have hts := atoms_spec (ws := ws_CU_skipBlanks) B.pre
  have htb := fun w (h : w ∈ TBL) => hts w (List.mem_cons_of_mem _ h)
  have hown : s.vm.findClass R_CU = some m.cls := findClass_of_methodNamed B.named
  have hlocks := B.notSynchronized
  subst hsz
  have hD := hD0.self (sz := s.heap.size)
  generalize hAe : va_A [(x, .inr (1, [.ref dl, .int (nI L.length), .int (nI a), .ref sb])), (dl, .inl (cC, 160, .inl f))] s.heap.size = A at hD ⊢
  have hA : ∀ q : Nat, s.heap.size ≤ q → A q := fun q h => by rw [← hAe]; exact Or.inr h
  have hS : va_S A s.heap s.heap [] := va_S.rf
  have hP : va_P (dC, dI) vwCl [(x, .inr (1, [.ref dl, .int (nI L.length), .int (nI a), .ref sb])), (dl, .inl (cC, 160, .inl f))] s.heap := hP
  have hl := lv_entry ([.ref x]) (n := 1) (Nat.le_of_ble_eq_true rfl)
  rw [lg_entry_eq]
  generalize (lg_sl ([.ref x]) ++ List.replicate (1 - (lg_sl ([.ref x])).length) Slot.unset).toArray = ls at hl ⊢
  have hl : lv_has ls 1 [(0, .ref x)] := hl
  refine zz_nQ (fun Q hQ => ?_)
  have h160 : L.length ≤ 160 := hL.1
  have hloop : ∀ (k9 : Nat) (b : Nat) (H : Heap) (locs : List Loc) (ls : Array Slot), L.length - b = k9 → a ≤ b → b ≤ L.length → skp (L.drop b) = skp (L.drop a) → lv_has ls 1 [(0, .ref x)] → va_P (dC, dI) vwCl [(x, .inr (1, [.ref dl, .int (nI L.length), .int (nI b), .ref sb])), (dl, .inl (cC, 160, .inl f))] H → va_D A [(x, .inr (1, [.ref dl, .int (nI L.length), .int (nI b), .ref sb])), (dl, .inl (cC, 160, .inl f))] → va_S A s.heap H locs → W p l e (headSpec ws_CU_skipBlanks ({ frames := 0, cells := 0, slots := 0, locals := 0 })).room s m args below meth c H locs 0 0 Q (F0 m 0 ls []) := by
    intro k9
    induction k9 using Nat.strongRecOn with
    | ind k9 ih =>
      intro b H locs ls hk9 hi0 hi1 hi2 hl hP hD hS
      refine lv_aload_n hx hb d_CU_skipBlanks_0 rfl (lv_at hl 0 rfl) ?_
      refine va_get (D := (dC, dI)) (ci := 1) (v := .int (nI b)) (C := R_CU) (T := T_CU) (N := 4) hx hb htb in_CU hown hK hP 0 rfl rfl 2 (by decide) (htb _ m_144) (fun _ h9 => h9) rfl d_CU_skipBlanks_1 ?_
      refine lv_aload_n hx hb d_CU_skipBlanks_4 rfl (lv_at hl 0 rfl) ?_
      refine va_get (D := (dC, dI)) (ci := 1) (v := .int (nI L.length)) (C := R_CU) (T := T_CU) (N := 4) hx hb htb in_CU hown hK hP 0 rfl rfl 1 (by decide) (htb _ m_143) (fun _ h9 => h9) rfl d_CU_skipBlanks_5 ?_
      have hcl := hL.lt b
      refine lv_icmp_ge (tgt := 38) hx hb d_CU_skipBlanks_8 rfl (fun h1 => ?_) (fun h1 => ?_)
      · have h1 : L.length ≤ b := (nI_leI (by omega) (by omega)).mp h1
        have hP9 := hP.sub (ws' := [(x, .inr (1, [.ref dl, .int (nI L.length), .int (nI b), .ref sb])), (dl, .inl (cC, 160, .inl f))]) [0, 1] rfl
        have hD9 := hD.sub (ws' := [(x, .inr (1, [.ref dl, .int (nI L.length), .int (nI b), .ref sb])), (dl, .inl (cC, 160, .inl f))]) [0, 1] (by decide) rfl
        have hK9 := hK.sub (tys' := [(cC, .char)]) [0] rfl
        rw [hQ]
        refine W.widen (k := 0) (n := 0) (Nat.le_of_ble_eq_true rfl) (Nat.le_of_ble_eq_true rfl) ?_
        exact W.vret hx hb hr (fun t ht hW => ⟨⟨b, rfl, ⟨by rw [← hi2, List.drop_eq_nil_of_le h1]; rfl, hi0, hi1⟩, ⟨by rw [ht]; exact hP9, va_K.moved hW.alike hK9, hD9⟩⟩, hS.F ht⟩) hS.2.2 d_CU_skipBlanks_38
      · have h1 : b < L.length := Nat.not_le.mp (fun h => h1 ((nI_leI (by omega) (by omega)).mpr h))
        refine lv_aload_n hx hb d_CU_skipBlanks_11 rfl (lv_at hl 0 rfl) ?_
        refine va_get (D := (dC, dI)) (ci := 1) (v := .ref dl) (C := R_CU) (T := T_CU) (N := 4) hx hb htb in_CU hown hK hP 0 rfl rfl 0 (by decide) (htb _ m_142) (fun _ h9 => h9) rfl d_CU_skipBlanks_12 ?_
        refine lv_aload_n hx hb d_CU_skipBlanks_15 rfl (lv_at hl 0 rfl) ?_
        refine va_get (D := (dC, dI)) (ci := 1) (v := .int (nI b)) (C := R_CU) (T := T_CU) (N := 4) hx hb htb in_CU hown hK hP 0 rfl rfl 2 (by decide) (htb _ m_144) (fun _ h9 => h9) rfl d_CU_skipBlanks_16 ?_
        refine va_cald hx hb hK hP 1 0 rfl rfl (vp_in_nI (by omega) (by omega)) d_CU_skipBlanks_19 ?_
        refine W.eq (congrArg (fun z => F0 m 20 ls (.int z :: [])) (by rw [nI_clamp (by omega)]; exact hL.2.2 _ h1 : (f (nI b).toNatClampNeg) = nI (L.getD b 0))) ?_
        refine lv_bipush (v := 32) hx hb d_CU_skipBlanks_20 (by decide) ?_
        refine lv_icmp_ne (tgt := 38) hx hb d_CU_skipBlanks_22 rfl (fun h2 => ?_) (fun h2 => ?_)
        · have h2 : ¬ L.getD b 0 = 32 := fun h => h2 (by rw [h]; rfl)
          have hP9 := hP.sub (ws' := [(x, .inr (1, [.ref dl, .int (nI L.length), .int (nI b), .ref sb])), (dl, .inl (cC, 160, .inl f))]) [0, 1] rfl
          have hD9 := hD.sub (ws' := [(x, .inr (1, [.ref dl, .int (nI L.length), .int (nI b), .ref sb])), (dl, .inl (cC, 160, .inl f))]) [0, 1] (by decide) rfl
          have hK9 := hK.sub (tys' := [(cC, .char)]) [0] rfl
          rw [hQ]
          refine W.widen (k := 0) (n := 0) (Nat.le_of_ble_eq_true rfl) (Nat.le_of_ble_eq_true rfl) ?_
          exact W.vret hx hb hr (fun t ht hW => ⟨⟨b, rfl, ⟨by rw [← hi2, drop_cons h1]; simp only [skp]; rw [if_neg h2], hi0, hi1⟩, ⟨by rw [ht]; exact hP9, va_K.moved hW.alike hK9, hD9⟩⟩, hS.F ht⟩) hS.2.2 d_CU_skipBlanks_38
        · have h2 : L.getD b 0 = 32 := (nI_eq (by omega) (by decide)).mp h2
          refine lv_aload_n hx hb d_CU_skipBlanks_25 rfl (lv_at hl 0 rfl) ?_
          refine lv_dup hx hb d_CU_skipBlanks_26 rfl ?_
          refine va_get (D := (dC, dI)) (ci := 1) (v := .int (nI b)) (C := R_CU) (T := T_CU) (N := 4) hx hb htb in_CU hown hK hP 0 rfl rfl 2 (by decide) (htb _ m_144) (fun _ h9 => h9) rfl d_CU_skipBlanks_27 ?_
          refine lv_iconst (v := 1) hx hb d_CU_skipBlanks_30 (by decide) ?_
          refine lv_iadd hx hb d_CU_skipBlanks_31 ?_
          refine W.eq (congrArg (fun z => F0 m 32 ls (.int z :: [.ref x])) (nI_1 _ : ((nI b) + 1) = nI (b + 1))) ?_
          refine va_put (D := (dC, dI)) (ci := 1) (v := .int (nI (b + 1))) (ty := .int) (C := R_CU) (T := T_CU) (N := 4) hx hb htb in_CU ty_CU ty_CU_ok nm_CU hown hK hP hD hS 0 rfl rfl 2 (by decide) (htb _ m_144) (fun _ h9 => h9) rfl (by decide +kernel) rfl rfl (Nat.le_of_ble_eq_true rfl) d_CU_skipBlanks_32 (fun H locs hP hD hS => ?_)
          have hP : va_P (dC, dI) vwCl [(x, .inr (1, [.ref dl, .int (nI L.length), .int (nI (b + 1)), .ref sb])), (dl, .inl (cC, 160, .inl f))] H := hP
          have hD : va_D A [(x, .inr (1, [.ref dl, .int (nI L.length), .int (nI (b + 1)), .ref sb])), (dl, .inl (cC, 160, .inl f))] := hD
          refine lv_goto (tgt := 0) hx hb d_CU_skipBlanks_35 rfl ?_
          exact ih (L.length - (b + 1)) (by omega) (b + 1) H locs ls rfl (by omega) (by omega) (by rw [← hi2, drop_cons h1]; simp only [skp]; rw [if_pos h2]) (lv_sub hl [0] rfl) (hP.sub (ws' := [(x, .inr (1, [.ref dl, .int (nI L.length), .int (nI (b + 1)), .ref sb])), (dl, .inl (cC, 160, .inl f))]) [0, 1] rfl) (hD.sub (ws' := [(x, .inr (1, [.ref dl, .int (nI L.length), .int (nI (b + 1)), .ref sb])), (dl, .inl (cC, 160, .inl f))]) [0, 1] (by decide) rfl) hS
  exact hloop _ a _ _ ls rfl (Nat.le_refl _) (ha) (rfl) (lv_sub hl [0] rfl) (hP.sub (ws' := [(x, .inr (1, [.ref dl, .int (nI L.length), .int (nI a), .ref sb])), (dl, .inl (cC, 160, .inl f))]) [0, 1] rfl) (hD.sub (ws' := [(x, .inr (1, [.ref dl, .int (nI L.length), .int (nI a), .ref sb])), (dl, .inl (cC, 160, .inl f))]) [0, 1] (by decide) rfl) hS
set_option maxHeartbeats 1000000 in
set_option maxRecDepth 100000 in
theorem q_CU_isAtNumber (l : Launch) (dC : Nat → ClassId) (dI : Nat → Nat → Nat) (x : Nat) (dl : Nat) (sb : Nat) (cC : ClassId) (f : Nat → Int32) (L : List Nat) (a : Nat) (em : Nat) (aK : Nat → Nat) (aV : Nat → Nat) (A : Nat → Prop) (hL : Drf L f) (ha : a ≤ L.length) : Met l y_CU_isAtNumber ws_CU_isAtNumber ({ frames := 1, cells := 0, slots := 0, locals := 20 }) (va_Pc [.ref x] (fun U => va_P (dC, dI) vwCl [(x, .inr (1, [.ref dl, .int (nI L.length), .int (nI a), .ref sb])), (dl, .inl (cC, 160, .inl f))] U.heap ∧ va_K (dC, dI) vwCl [(cC, .char)] U ∧ EX em aK aV A U U.heap)) (vp_Si (fun (r : Int32) => r = bI (decide (L.getD a 0 = 45) || isDig (L.getD a 0)))) 0 0 (fun _ => False) := by
  refine Met.ofW (cc := c_CU_isAtNumber) (maxL := 1) (ret := (some .boolean)) (by decide) rfl ?_
  intro p e s m args below meth c s₁ B hml hv
  obtain ⟨rfl, hP, hK, hE⟩ := hv
  have hx := B.exec
  have hb := B.bytes
  have hr := B.returns
  have hts := atoms_spec (ws := ws_CU_isAtNumber) B.pre
  have htb := fun w (h : w ∈ TBL) => hts w (List.mem_cons_of_mem _ h)
  have hown : s.vm.findClass R_CU = some m.cls := findClass_of_methodNamed B.named
  have hlocks := B.notSynchronized
  have hl := lv_entry ([.ref x]) (n := 1) (Nat.le_of_ble_eq_true rfl)
  rw [lg_entry_eq]
  generalize (lg_sl ([.ref x]) ++ List.replicate (1 - (lg_sl ([.ref x])).length) Slot.unset).toArray = ls at hl ⊢
  have hl : lv_has ls 1 [(0, .ref x)] := hl
  have h160 : L.length ≤ 160 := hL.1
  refine lv_aload_n hx hb d_CU_isAtNumber_0 rfl (lv_at hl 0 rfl) ?_
  refine va_get (D := (dC, dI)) (ci := 1) (v := .int (nI a)) (C := R_CU) (T := T_CU) (N := 4) hx hb htb in_CU hown hK hP 0 rfl rfl 2 (by decide) (htb _ m_144) (fun _ h9 => h9) rfl d_CU_isAtNumber_1 ?_
  refine lv_aload_n hx hb d_CU_isAtNumber_4 rfl (lv_at hl 0 rfl) ?_
  refine va_get (D := (dC, dI)) (ci := 1) (v := .int (nI L.length)) (C := R_CU) (T := T_CU) (N := 4) hx hb htb in_CU hown hK hP 0 rfl rfl 1 (by decide) (htb _ m_143) (fun _ h9 => h9) rfl d_CU_isAtNumber_5 ?_
  refine lv_icmp_ge (tgt := 44) hx hb d_CU_isAtNumber_8 rfl (fun h1 => ?_) (fun h1 => ?_)
  · have h1 : L.length ≤ a := (nI_leI (by omega) (by omega)).mp h1
    refine lv_iconst (v := 0) hx hb d_CU_isAtNumber_44 (by decide) ?_
    exact W.zret (v := 0) hx hb hr (by decide) (fun t ht hW => ⟨0, rfl, by rw [getD_end h1]; rfl, ht⟩) (fun q h => absurd h List.not_mem_nil) d_CU_isAtNumber_45
  · have h1 : a < L.length := Nat.not_le.mp (fun h => h1 ((nI_leI (by omega) (by omega)).mpr h))
    have hcl := hL.lt a
    refine lv_aload_n hx hb d_CU_isAtNumber_11 rfl (lv_at hl 0 rfl) ?_
    refine va_get (D := (dC, dI)) (ci := 1) (v := .ref dl) (C := R_CU) (T := T_CU) (N := 4) hx hb htb in_CU hown hK hP 0 rfl rfl 0 (by decide) (htb _ m_142) (fun _ h9 => h9) rfl d_CU_isAtNumber_12 ?_
    refine lv_aload_n hx hb d_CU_isAtNumber_15 rfl (lv_at hl 0 rfl) ?_
    refine va_get (D := (dC, dI)) (ci := 1) (v := .int (nI a)) (C := R_CU) (T := T_CU) (N := 4) hx hb htb in_CU hown hK hP 0 rfl rfl 2 (by decide) (htb _ m_144) (fun _ h9 => h9) rfl d_CU_isAtNumber_16 ?_
    refine va_cald hx hb hK hP 1 0 rfl rfl (vp_in_nI (by omega) (by omega)) d_CU_isAtNumber_19 ?_
    refine W.eq (congrArg (fun z => F0 m 20 ls (.int z :: [])) (by rw [nI_clamp (by omega)]; exact hL.2.2 _ h1 : (f (nI a).toNatClampNeg) = nI (L.getD a 0))) ?_
    refine lv_bipush (v := 45) hx hb d_CU_isAtNumber_20 (by decide) ?_
    refine lv_icmp_eq (tgt := 40) hx hb d_CU_isAtNumber_22 rfl (fun h2 => ?_) (fun h2 => ?_)
    · have h2 : L.getD a 0 = 45 := (nI_eq (by omega) (by decide)).mp h2
      refine lv_iconst (v := 1) hx hb d_CU_isAtNumber_40 (by decide) ?_
      refine lv_goto (tgt := 45) hx hb d_CU_isAtNumber_41 rfl ?_
      exact W.zret (v := 1) hx hb hr (by decide) (fun t ht hW => ⟨1, rfl, by rw [h2]; rfl, ht⟩) (fun q h => absurd h List.not_mem_nil) d_CU_isAtNumber_45
    · have h2 : ¬ L.getD a 0 = 45 := fun h => h2 (by rw [h]; rfl)
      refine lv_aload_n hx hb d_CU_isAtNumber_25 rfl (lv_at hl 0 rfl) ?_
      refine va_get (D := (dC, dI)) (ci := 1) (v := .ref dl) (C := R_CU) (T := T_CU) (N := 4) hx hb htb in_CU hown hK hP 0 rfl rfl 0 (by decide) (htb _ m_142) (fun _ h9 => h9) rfl d_CU_isAtNumber_26 ?_
      refine lv_aload_n hx hb d_CU_isAtNumber_29 rfl (lv_at hl 0 rfl) ?_
      refine va_get (D := (dC, dI)) (ci := 1) (v := .int (nI a)) (C := R_CU) (T := T_CU) (N := 4) hx hb htb in_CU hown hK hP 0 rfl rfl 2 (by decide) (htb _ m_144) (fun _ h9 => h9) rfl d_CU_isAtNumber_30 ?_
      refine va_cald hx hb hK hP 1 0 rfl rfl (vp_in_nI (by omega) (by omega)) d_CU_isAtNumber_33 ?_
      refine W.eq (congrArg (fun z => F0 m 34 ls (.int z :: [])) (by rw [nI_clamp (by omega)]; exact hL.2.2 _ h1 : (f (nI a).toNatClampNeg) = nI (L.getD a 0))) ?_
      have hPc : va_P (dC, dI) vwCl [] _ := hP.sub (ws' := []) [] rfl
      have hKc := hK.sub (tys' := []) [] rfl
      refine vp_callSi (va_Run.run (va_runSN (As := [.int (nI (L.getD a 0))]) (rest := []) ⟨hx, hb, hml, hown, htb⟩ (q_PS_isDigit l dC dI (L.getD a 0) (by omega)) ⟨va_cnB 1 htb (g_all (fun _ h => h) m_427) rfl rfl rfl (nw_2 hE) (htb _ m_1) (by decide +kernel) ⟨Nat.le_of_ble_eq_true rfl, Nat.le_of_ble_eq_true rfl⟩, (htb _ m_426), trivial⟩ ⟨fun a U g mk q => by obtain ⟨q0, qP, qK⟩ := q; exact ⟨q0, qP, va_K.moved (u := U) (U := U.calling g mk a) (Vm.Alike.refl U.vm) qK⟩, fun U hU hW => ⟨rfl, by rw [hU]; exact hPc, va_K.moved hW.alike hKc⟩⟩ rfl rfl hl.1 rfl (lv_room (Nat.le_of_ble_eq_true rfl)) d_CU_isAtNumber_34 ⟨Nat.le_of_ble_eq_true rfl, Nat.le_of_ble_eq_true rfl⟩)) (fun r1 hw2 => ?_)
      have hw2 : r1 = bI (isDig (L.getD a 0)) := hw2
      refine lv_if_eq (tgt := 44) hx hb d_CU_isAtNumber_37 rfl (fun h3 => ?_) (fun h3 => ?_)
      · have h4 : isDig (L.getD a 0) = false := by rw [hw2] at h3; cases h5 : isDig (L.getD a 0) with | false => rfl | true => rw [h5] at h3; exact absurd h3 (by decide)
        refine lv_iconst (v := 0) hx hb d_CU_isAtNumber_44 (by decide) ?_
        exact W.zret (v := 0) hx hb hr (by decide) (fun t ht hW => ⟨0, rfl, by rw [h4, decide_eq_false h2]; rfl, ht⟩) (fun q h => absurd h List.not_mem_nil) d_CU_isAtNumber_45
      · have h4 : isDig (L.getD a 0) = true := by rw [hw2] at h3; cases h5 : isDig (L.getD a 0) with | true => rfl | false => rw [h5] at h3; exact absurd rfl h3
        refine lv_iconst (v := 1) hx hb d_CU_isAtNumber_40 (by decide) ?_
        refine lv_goto (tgt := 45) hx hb d_CU_isAtNumber_41 rfl ?_
        exact W.zret (v := 1) hx hb hr (by decide) (fun t ht hW => ⟨1, rfl, by rw [h4, decide_eq_false h2]; rfl, ht⟩) (fun q h => absurd h List.not_mem_nil) d_CU_isAtNumber_45
set_option maxHeartbeats 1000000 in
set_option maxRecDepth 100000 in
theorem q_CU_isAtString (l : Launch) (dC : Nat → ClassId) (dI : Nat → Nat → Nat) (x : Nat) (dl : Nat) (sb : Nat) (cC : ClassId) (f : Nat → Int32) (L : List Nat) (a : Nat) (hL : Drf L f) (ha : a ≤ L.length) : Met l y_CU_isAtString ws_CU_isAtString ({ frames := 0, cells := 0, slots := 0, locals := 0 }) (va_Pc [.ref x] (fun U => va_P (dC, dI) vwCl [(x, .inr (1, [.ref dl, .int (nI L.length), .int (nI a), .ref sb])), (dl, .inl (cC, 160, .inl f))] U.heap ∧ va_K (dC, dI) vwCl [(cC, .char)] U)) (vp_Si (fun (r : Int32) => r = bI (decide (L.getD a 0 = 34) || decide (L.getD a 0 = 39)))) 0 0 (fun _ => False) := by
  refine Met.ofW (cc := c_CU_isAtString) (maxL := 1) (ret := (some .boolean)) (by decide) rfl ?_
  intro p e s m args below meth c s₁ B hml hv
  obtain ⟨rfl, hP, hK⟩ := hv
  have hx := B.exec
  have hb := B.bytes
  have hr := B.returns
  have hts := atoms_spec (ws := ws_CU_isAtString) B.pre
  have htb := fun w (h : w ∈ TBL) => hts w (List.mem_cons_of_mem _ h)
  have hown : s.vm.findClass R_CU = some m.cls := findClass_of_methodNamed B.named
  have hlocks := B.notSynchronized
  have hl := lv_entry ([.ref x]) (n := 1) (Nat.le_of_ble_eq_true rfl)
  rw [lg_entry_eq]
  generalize (lg_sl ([.ref x]) ++ List.replicate (1 - (lg_sl ([.ref x])).length) Slot.unset).toArray = ls at hl ⊢
  have hl : lv_has ls 1 [(0, .ref x)] := hl
  have h160 : L.length ≤ 160 := hL.1
  refine lv_aload_n hx hb d_CU_isAtString_0 rfl (lv_at hl 0 rfl) ?_
  refine va_get (D := (dC, dI)) (ci := 1) (v := .int (nI a)) (C := R_CU) (T := T_CU) (N := 4) hx hb htb in_CU hown hK hP 0 rfl rfl 2 (by decide) (htb _ m_144) (fun _ h9 => h9) rfl d_CU_isAtString_1 ?_
  refine lv_aload_n hx hb d_CU_isAtString_4 rfl (lv_at hl 0 rfl) ?_
  refine va_get (D := (dC, dI)) (ci := 1) (v := .int (nI L.length)) (C := R_CU) (T := T_CU) (N := 4) hx hb htb in_CU hown hK hP 0 rfl rfl 1 (by decide) (htb _ m_143) (fun _ h9 => h9) rfl d_CU_isAtString_5 ?_
  refine lv_icmp_ge (tgt := 43) hx hb d_CU_isAtString_8 rfl (fun h1 => ?_) (fun h1 => ?_)
  · have h1 : L.length ≤ a := (nI_leI (by omega) (by omega)).mp h1
    refine lv_iconst (v := 0) hx hb d_CU_isAtString_43 (by decide) ?_
    exact W.zret (v := 0) hx hb hr (by decide) (fun t ht hW => ⟨0, rfl, by rw [getD_end h1]; rfl, ht⟩) (fun q h => absurd h List.not_mem_nil) d_CU_isAtString_44
  · have h1 : a < L.length := Nat.not_le.mp (fun h => h1 ((nI_leI (by omega) (by omega)).mpr h))
    have hcl := hL.lt a
    refine lv_aload_n hx hb d_CU_isAtString_11 rfl (lv_at hl 0 rfl) ?_
    refine va_get (D := (dC, dI)) (ci := 1) (v := .ref dl) (C := R_CU) (T := T_CU) (N := 4) hx hb htb in_CU hown hK hP 0 rfl rfl 0 (by decide) (htb _ m_142) (fun _ h9 => h9) rfl d_CU_isAtString_12 ?_
    refine lv_aload_n hx hb d_CU_isAtString_15 rfl (lv_at hl 0 rfl) ?_
    refine va_get (D := (dC, dI)) (ci := 1) (v := .int (nI a)) (C := R_CU) (T := T_CU) (N := 4) hx hb htb in_CU hown hK hP 0 rfl rfl 2 (by decide) (htb _ m_144) (fun _ h9 => h9) rfl d_CU_isAtString_16 ?_
    refine va_cald hx hb hK hP 1 0 rfl rfl (vp_in_nI (by omega) (by omega)) d_CU_isAtString_19 ?_
    refine W.eq (congrArg (fun z => F0 m 20 ls (.int z :: [])) (by rw [nI_clamp (by omega)]; exact hL.2.2 _ h1 : (f (nI a).toNatClampNeg) = nI (L.getD a 0))) ?_
    refine lv_bipush (v := 34) hx hb d_CU_isAtString_20 (by decide) ?_
    refine lv_icmp_eq (tgt := 39) hx hb d_CU_isAtString_22 rfl (fun h2 => ?_) (fun h2 => ?_)
    · have h2 : L.getD a 0 = 34 := (nI_eq (by omega) (by decide)).mp h2
      refine lv_iconst (v := 1) hx hb d_CU_isAtString_39 (by decide) ?_
      refine lv_goto (tgt := 44) hx hb d_CU_isAtString_40 rfl ?_
      exact W.zret (v := 1) hx hb hr (by decide) (fun t ht hW => ⟨1, rfl, by rw [h2]; rfl, ht⟩) (fun q h => absurd h List.not_mem_nil) d_CU_isAtString_44
    · have h2 : ¬ L.getD a 0 = 34 := fun h => h2 (by rw [h]; rfl)
      refine lv_aload_n hx hb d_CU_isAtString_25 rfl (lv_at hl 0 rfl) ?_
      refine va_get (D := (dC, dI)) (ci := 1) (v := .ref dl) (C := R_CU) (T := T_CU) (N := 4) hx hb htb in_CU hown hK hP 0 rfl rfl 0 (by decide) (htb _ m_142) (fun _ h9 => h9) rfl d_CU_isAtString_26 ?_
      refine lv_aload_n hx hb d_CU_isAtString_29 rfl (lv_at hl 0 rfl) ?_
      refine va_get (D := (dC, dI)) (ci := 1) (v := .int (nI a)) (C := R_CU) (T := T_CU) (N := 4) hx hb htb in_CU hown hK hP 0 rfl rfl 2 (by decide) (htb _ m_144) (fun _ h9 => h9) rfl d_CU_isAtString_30 ?_
      refine va_cald hx hb hK hP 1 0 rfl rfl (vp_in_nI (by omega) (by omega)) d_CU_isAtString_33 ?_
      refine W.eq (congrArg (fun z => F0 m 34 ls (.int z :: [])) (by rw [nI_clamp (by omega)]; exact hL.2.2 _ h1 : (f (nI a).toNatClampNeg) = nI (L.getD a 0))) ?_
      refine lv_bipush (v := 39) hx hb d_CU_isAtString_34 (by decide) ?_
      refine lv_icmp_ne (tgt := 43) hx hb d_CU_isAtString_36 rfl (fun h3 => ?_) (fun h3 => ?_)
      · have h3 : ¬ L.getD a 0 = 39 := fun h => h3 (by rw [h]; rfl)
        refine lv_iconst (v := 0) hx hb d_CU_isAtString_43 (by decide) ?_
        exact W.zret (v := 0) hx hb hr (by decide) (fun t ht hW => ⟨0, rfl, by rw [decide_eq_false h3, decide_eq_false h2]; rfl, ht⟩) (fun q h => absurd h List.not_mem_nil) d_CU_isAtString_44
      · have h3 : L.getD a 0 = 39 := (nI_eq (by omega) (by decide)).mp h3
        refine lv_iconst (v := 1) hx hb d_CU_isAtString_39 (by decide) ?_
        refine lv_goto (tgt := 44) hx hb d_CU_isAtString_40 rfl ?_
        exact W.zret (v := 1) hx hb hr (by decide) (fun t ht hW => ⟨1, rfl, by rw [h3]; rfl, ht⟩) (fun q h => absurd h List.not_mem_nil) d_CU_isAtString_44
