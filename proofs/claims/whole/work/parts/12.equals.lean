theorem sb_inj {a b : Nat} (ha : a < 128) (hb : b < 128) (h : sb_b a = sb_b b) : a = b := by
  have h1 := (sb_byte a (by omega)).1
  have h2 := (sb_byte b (by omega)).1
  rw [h] at h1
  exact (nI_eq (by omega) (by omega)).mp (h1.symm.trans h2)
theorem tx_ext {x y : List Nat} (hl : x.length = y.length) (h : ∀ i, i < x.length → x.getD i 0 = y.getD i 0) : x = y := by
  apply List.ext_getElem hl
  intro i h1 h2
  have := h i h1
  rw [List.getD_eq_getElem?_getD, List.getD_eq_getElem?_getD, List.getElem?_eq_getElem h1, List.getElem?_eq_getElem h2] at this
  exact this
theorem BV.inj {U : State} {H : Heap} {v : Nat} {x y : List Nat} (h : BV U H v x) (h' : BV U H v y) : x = y := by
  obtain ⟨c1, a1, -, -, a4, a5, a6, -⟩ := h.1
  obtain ⟨c2, b1, -, -, b4, b5, b6, -⟩ := h'.1
  cases a1.symm.trans b1
  have hx := h.2.2
  have hy := h'.2.2
  have hl : x.length = y.length := (nI_eq (by omega) (by omega)).mp (a5.symm.trans b5)
  refine tx_ext hl (fun i hi => ?_)
  have e1 := a6 i hi
  have e2 := b6 i (by omega)
  have e3 := Option.some.inj (e1.symm.trans e2)
  exact sb_inj (h.lt i) (h'.lt i) (Value.int.inj e3)
set_option maxHeartbeats 1000000 in
set_option maxRecDepth 100000 in
theorem lp_LT_equals {p : Program} {l : Launch} {e : Env} {R : Room} {s : State} {m : MethodId} {args : Array Value} {below : List Frame} {meth : Method} {c : Code} {cells slots : Nat} {Q : State → Prop} {v w : Nat} {tx ty : List Nat} (hx : p.tables.exec = Jvm.exec) (hb : c.code = c_LT_equals) (hBV_v : BV s s.heap v tx) (hBV_w : BV s s.heap w ty) (hlen : tx.length = ty.length)
    (hend : ∀ ls : Array Slot, tx = ty → W p l e R s m args below meth c s.heap [] cells slots Q (F0 m 32 ls [])) (hno : ∀ ls : Array Slot, tx ≠ ty → W p l e R s m args below meth c s.heap [] cells slots Q (F0 m 24 ls [])) :
    ∀ (k j : Nat), j + k = tx.length → ∀ ls : Array Slot, lv_has ls 3 [(2, .int (nI j)), (0, .ref v), (1, .ref w)] → (∀ i, i < j → tx.getD i 0 = ty.getD i 0) → W p l e R s m args below meth c s.heap [] cells slots Q (F0 m 9 ls []) := by
  have hS0 : va_S NA s.heap s.heap [] := va_S.rf
  have hlt : tx.length < 65536 := hBV_v.2.2
  intro k
  induction k with
  | zero =>
    intro j hj ls hl he
    obtain rfl : j = tx.length := by omega
    refine lv_iload_n hx hb d_LT_equals_9 rfl (lv_at hl 0 rfl) ?_
    refine lv_aload_n hx hb d_LT_equals_10 rfl (lv_at hl 1 rfl) ?_
    refine va_tlen (v := nI tx.length) hx hb hBV_v.1 hS0 rfl d_LT_equals_11 ?_
    refine lv_icmp_ge (tgt := 32) hx hb d_LT_equals_12 rfl (fun _ => ?_) (fun h9 => absurd (nI_le (Nat.le_refl _) (by omega)) h9)
    exact hend ls (tx_ext hlen he)
  | succ k ih =>
    intro j hj ls hl he
    have hj8 : j < tx.length := by omega
    have h1c := hBV_v.lt j
    have h2c := hBV_w.lt j
    refine lv_iload_n hx hb d_LT_equals_9 rfl (lv_at hl 0 rfl) ?_
    refine lv_aload_n hx hb d_LT_equals_10 rfl (lv_at hl 1 rfl) ?_
    refine va_tlen (v := nI tx.length) hx hb hBV_v.1 hS0 rfl d_LT_equals_11 ?_
    refine lv_icmp_ge (tgt := 32) hx hb d_LT_equals_12 rfl (fun h9 => absurd h9 (nI_ge hj8 (by omega))) (fun _ => ?_)
    refine lv_aload_n hx hb d_LT_equals_15 rfl (lv_at hl 1 rfl) ?_
    refine lv_iload_n hx hb d_LT_equals_16 rfl (lv_at hl 0 rfl) ?_
    refine va_tb (v := .int (sb_b (tx.getD j 0))) hx hb hBV_v.1 hS0 (vp_in_nI (by omega) (by omega)) (by rw [nI_clamp (by omega)]) d_LT_equals_17 ?_
    refine lv_aload_n hx hb d_LT_equals_18 rfl (lv_at hl 2 rfl) ?_
    refine lv_iload_n hx hb d_LT_equals_19 rfl (lv_at hl 0 rfl) ?_
    refine va_tb (v := .int (sb_b (ty.getD j 0))) hx hb hBV_w.1 hS0 (vp_in_nI (by omega) (by omega)) (by rw [nI_clamp (by omega)]) d_LT_equals_20 ?_
    refine lv_icmp_eq (tgt := 26) hx hb d_LT_equals_21 rfl (fun h1 => ?_) (fun h1 => ?_)
    · have hjj : tx.getD j 0 = ty.getD j 0 := sb_inj h1c h2c h1
      refine lv_iinc (k := 0) (v := ((nI j) + Int32.ofInt 1)) hx hb d_LT_equals_26 hl rfl rfl (by decide) rfl (fun ls hl => ?_)
      have hl : lv_has ls 3 [(2, .int ((nI j) + Int32.ofInt 1)), (0, .ref v), (1, .ref w)] := hl
      rw [show nI j + Int32.ofInt 1 = nI (j + 1) from nI_1 _] at hl
      refine lv_goto (tgt := 9) hx hb d_LT_equals_29 rfl ?_
      exact ih (j + 1) (by omega) ls (lv_sub hl [0, 1, 2] rfl) (fun i hi => by rcases Nat.lt_succ_iff_lt_or_eq.mp hi with h | rfl; exact he i h; exact hjj)
    · exact hno ls (fun h => h1 (by rw [h]))
set_option maxHeartbeats 1000000 in
set_option maxRecDepth 100000 in
theorem q_LT_equals (l : Launch) (dC : Nat → ClassId) (dI : Nat → Nat → Nat) (v : Nat) (w : Nat) (tx : List Nat) (ty : List Nat) : Met l y_LT_equals ws_LT_equals ({ frames := 0, cells := 0, slots := 0, locals := 0 }) (va_Pc [.ref v, .ref w] (fun U => va_P (dC, dI) vwCl [] U.heap ∧ va_K (dC, dI) vwCl [] U ∧ BV U U.heap v tx ∧ BV U U.heap w ty)) (vp_Si (fun (r : Int32) => (r = 1 ∧ tx = ty) ∨ (r = 0 ∧ tx ≠ ty))) 0 0 (fun _ => False) := by
  refine Met.ofW (cc := c_LT_equals) (maxL := 3) (ret := (some .boolean)) (by decide) rfl ?_
  intro p e s m args below meth c s₁ B hml hv
  obtain ⟨rfl, hP, hK, hBV_v, hBV_w⟩ := hv
  have hx := B.exec
  have hb := B.bytes
  have hr := B.returns
  have hts := atoms_spec (ws := ws_LT_equals) B.pre
  have htb := fun w (h : w ∈ TBL) => hts w (List.mem_cons_of_mem _ h)
  have hown : s.vm.findClass R_LT = some m.cls := findClass_of_methodNamed B.named
  have hlocks := B.notSynchronized
  have hl := lv_entry ([.ref v, .ref w]) (n := 3) (Nat.le_of_ble_eq_true rfl)
  rw [lg_entry_eq]
  generalize (lg_sl ([.ref v, .ref w]) ++ List.replicate (3 - (lg_sl ([.ref v, .ref w])).length) Slot.unset).toArray = ls at hl ⊢
  have hl : lv_has ls 3 [(0, .ref v), (1, .ref w)] := hl
  have hS0 : va_S NA s.heap s.heap [] := va_S.rf
  have hlt : tx.length < 65536 := hBV_v.2.2
  have hlt2 : ty.length < 65536 := hBV_w.2.2
  refine lv_aload_n hx hb d_LT_equals_0 rfl (lv_at hl 0 rfl) ?_
  refine va_tlen (v := nI (tx).length) hx hb hBV_v.1 hS0 rfl d_LT_equals_1 ?_
  refine lv_aload_n hx hb d_LT_equals_2 rfl (lv_at hl 1 rfl) ?_
  refine va_tlen (v := nI (ty).length) hx hb hBV_w.1 hS0 rfl d_LT_equals_3 ?_
  refine lv_icmp_ne (tgt := 34) hx hb d_LT_equals_4 rfl (fun h1 => ?_) (fun h1 => ?_)
  · refine lv_iconst (v := 0) hx hb d_LT_equals_34 (by decide) ?_
    exact W.zret (v := 0) hx hb hr (by decide) (fun t ht hW => ⟨0, rfl, Or.inr ⟨rfl, fun h => h1 (by rw [h])⟩, ht⟩) (fun q h => absurd h List.not_mem_nil) d_LT_equals_35
  · have hlen : tx.length = ty.length := (nI_eq (by omega) (by omega)).mp h1
    refine lv_iconst (v := 0) hx hb d_LT_equals_7 (by decide) ?_
    refine lv_istore_n hx hb d_LT_equals_8 rfl hl (by decide) rfl (fun ls hl => ?_)
    have hl : lv_has ls 3 [(2, .int 0), (0, .ref v), (1, .ref w)] := hl
    refine lp_LT_equals hx hb hBV_v hBV_w hlen ?_ ?_ tx.length 0 (Nat.zero_add _) ls (lv_sub hl [0, 1, 2] rfl) (fun _ h => absurd h (Nat.not_lt_zero _))
    · intro ls h2
      refine lv_iconst (v := 1) hx hb d_LT_equals_32 (by decide) ?_
      exact W.zret (v := 1) hx hb hr (by decide) (fun t ht hW => ⟨1, rfl, Or.inl ⟨rfl, h2⟩, ht⟩) (fun q h => absurd h List.not_mem_nil) d_LT_equals_33
    · intro ls h2
      refine lv_iconst (v := 0) hx hb d_LT_equals_24 (by decide) ?_
      exact W.zret (v := 0) hx hb hr (by decide) (fun t ht hW => ⟨0, rfl, Or.inr ⟨rfl, h2⟩, ht⟩) (fun q h => absurd h List.not_mem_nil) d_LT_equals_25
set_option maxHeartbeats 1000000 in
set_option maxRecDepth 100000 in
/-- equals of two Strings -/
theorem q_ST_equals (l : Launch) (dC : Nat → ClassId) (dI : Nat → Nat → Nat) (a : Nat) (b : Nat) (v : Nat) (w : Nat) (tx : List Nat) (ty : List Nat) (em : Nat) (aK : Nat → Nat) (aV : Nat → Nat) (A : Nat → Prop) : Met l y_ST_equals ws_ST_equals ({ frames := 1, cells := 0, slots := 0, locals := 22 }) (va_Pc [.ref a, .ref b] (fun U => va_P (dC, dI) vwCl [] U.heap ∧ va_K (dC, dI) vwCl [] U ∧ EX em aK aV A U U.heap ∧ SV U U.heap a v tx ∧ SV U U.heap b w ty)) (vp_Si (fun (r : Int32) => (r = 1 ∧ tx = ty) ∨ (r = 0 ∧ tx ≠ ty))) 0 0 (fun _ => False) := by
  refine Met.ofW (cc := c_ST_equals) (maxL := 3) (ret := (some .boolean)) (by decide) rfl ?_
  intro p e s m args below meth c s₁ B hml hv
  obtain ⟨rfl, hP, hK, hE, hSV_a, hSV_b⟩ := hv
  have hx := B.exec
  have hb := B.bytes
  have hr := B.returns
  have hts := atoms_spec (ws := ws_ST_equals) B.pre
  have htb := fun w (h : w ∈ TBL) => hts w (List.mem_cons_of_mem _ h)
  have hown : s.vm.findClass R_ST = some m.cls := findClass_of_methodNamed B.named
  have hlocks := B.notSynchronized
  have hl := lv_entry ([.ref a, .ref b]) (n := 3) (Nat.le_of_ble_eq_true rfl)
  rw [lg_entry_eq]
  generalize (lg_sl ([.ref a, .ref b]) ++ List.replicate (3 - (lg_sl ([.ref a, .ref b])).length) Slot.unset).toArray = ls at hl ⊢
  have hl : lv_has ls 3 [(0, .ref a), (1, .ref b)] := hl
  have hS0 : va_S NA s.heap s.heap [] := va_S.rf
  have hSA : va_S A s.heap s.heap [] := va_S.rf
  have hBV_v := hSV_a.2.2.2
  have hBV_w := hSV_b.2.2.2
  refine lv_aload_n hx hb d_ST_equals_0 rfl (lv_at hl 0 rfl) ?_
  refine lv_aload_n hx hb d_ST_equals_1 rfl (lv_at hl 1 rfl) ?_
  refine lv_acmp_ne (rx := some a) (ry := some b) (tgt := 7) hx hb d_ST_equals_2 rfl (fun h1 => ?_) (fun h1 => ?_)
  · refine lv_aload_n hx hb d_ST_equals_7 rfl (lv_at hl 1 rfl) ?_
    refine va_instS (nm := "java/lang/String") hx hb hown (htb _ m_511) (hK.1 15 _ rfl).2 hSV_b.recv d_ST_equals_8 ?_
    refine lv_if_eq (tgt := 54) hx hb d_ST_equals_11 rfl (fun h9 => absurd h9 (by decide)) (fun _ => ?_)
    refine lv_aload_n hx hb d_ST_equals_14 rfl (lv_at hl 1 rfl) ?_
    refine va_castS (nm := "java/lang/String") hx hb hown (htb _ m_511) (hK.1 15 _ rfl).2 hSV_b.recv d_ST_equals_15 ?_
    refine lv_astore_n hx hb d_ST_equals_18 rfl hl (by decide) rfl (fun ls hl => ?_)
    have hl : lv_has ls 3 [(2, .ref b), (0, .ref a), (1, .ref b)] := hl
    refine va_gets hx hb hE.compact hSA hown (htb _ m_289) (fun _ h9 => h9) d_ST_equals_19 ?_
    refine lv_if_eq (tgt := 36) hx hb d_ST_equals_22 rfl (fun h9 => absurd h9 (by decide)) (fun _ => ?_)
    refine lv_aload_n hx hb d_ST_equals_25 rfl (lv_at hl 1 rfl) ?_
    refine vk_getf hx hb hSV_a.2.1 hS0 hown (htb _ m_324) (fun _ h9 => h9) d_ST_equals_26 ?_
    refine lv_aload_n hx hb d_ST_equals_29 rfl (lv_at hl 0 rfl) ?_
    refine vk_getf hx hb hSV_b.2.1 hS0 hown (htb _ m_324) (fun _ h9 => h9) d_ST_equals_30 ?_
    refine lv_icmp_ne (tgt := 54) hx hb d_ST_equals_33 rfl (fun h9 => absurd (rfl) h9) (fun _ => ?_)
    refine lv_aload_n hx hb d_ST_equals_36 rfl (lv_at hl 1 rfl) ?_
    refine vk_getf hx hb hSV_a.2.2.1 hS0 hown (htb _ m_323) (fun _ h9 => h9) d_ST_equals_37 ?_
    refine lv_aload_n hx hb d_ST_equals_40 rfl (lv_at hl 0 rfl) ?_
    refine vk_getf hx hb hSV_b.2.2.1 hS0 hown (htb _ m_323) (fun _ h9 => h9) d_ST_equals_41 ?_
    have hPc : va_P (dC, dI) vwCl [] _ := hP.sub (ws' := []) [] rfl
    have hKc := hK.sub (tys' := []) [] rfl
    refine vp_callSi (W.runS (As := [.ref v, .ref w]) (rest := []) ⟨hx, hb, hml, hown, htb⟩ (q_LT_equals l dC dI v w tx ty ) (va_cwS 2 htb (g_S (fun _ h => h) m_514 m_512 m_513 m_16) rfl rfl rfl (by decide +kernel) ⟨Nat.le_of_ble_eq_true rfl, Nat.le_of_ble_eq_true rfl⟩) ⟨fun a U g mk q => by obtain ⟨q0, qP, qK, z0, z1⟩ := q; exact ⟨q0, qP, va_K.moved (u := U) (U := U.calling g mk a) (Vm.Alike.refl U.vm) qK, BV.moved (Vm.Alike.refl U.vm) z0, BV.moved (Vm.Alike.refl U.vm) z1⟩, fun U hU hW => ⟨rfl, by rw [hU]; exact hPc, va_K.moved hW.alike hKc, by rw [hU]; exact BV.moved hW.alike hBV_v, by rw [hU]; exact BV.moved hW.alike hBV_w⟩⟩ rfl rfl hl.1 rfl (lv_room (Nat.le_of_ble_eq_true rfl)) d_ST_equals_44 ⟨Nat.le_of_ble_eq_true rfl, Nat.le_of_ble_eq_true rfl⟩) (fun r1 hw2 => ?_)
    have hw2 : (r1 = 1 ∧ tx = ty) ∨ (r1 = 0 ∧ tx ≠ ty) := hw2
    refine lv_if_eq (tgt := 54) hx hb d_ST_equals_47 rfl (fun h2 => ?_) (fun h2 => ?_)
    · refine lv_iconst (v := 0) hx hb d_ST_equals_54 (by decide) ?_
      exact W.zret (v := 0) hx hb hr (by decide) (fun t ht hW => ⟨0, rfl, by rcases hw2 with ⟨h3, h4⟩ | ⟨h3, h4⟩; exact absurd (h3.symm.trans h2) (by decide); exact Or.inr ⟨rfl, h4⟩, ht⟩) (fun q h => absurd h List.not_mem_nil) d_ST_equals_55
    · refine lv_iconst (v := 1) hx hb d_ST_equals_50 (by decide) ?_
      refine lv_goto (tgt := 55) hx hb d_ST_equals_51 rfl ?_
      exact W.zret (v := 1) hx hb hr (by decide) (fun t ht hW => ⟨1, rfl, by rcases hw2 with ⟨h3, h4⟩ | ⟨h3, h4⟩; exact Or.inl ⟨rfl, h4⟩; exact absurd h3 h2, ht⟩) (fun q h => absurd h List.not_mem_nil) d_ST_equals_55
  · cases h1
    cases hSV_a.same hSV_b
    refine lv_iconst (v := 1) hx hb d_ST_equals_5 (by decide) ?_
    exact W.zret (v := 1) hx hb hr (by decide) (fun t ht hW => ⟨1, rfl, Or.inl ⟨rfl, hBV_v.inj hBV_w⟩, ht⟩) (fun q h => absurd h List.not_mem_nil) d_ST_equals_6
