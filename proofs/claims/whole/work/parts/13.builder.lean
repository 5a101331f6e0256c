theorem mm_max {a b : Nat} (ha : a < 2 ^ 31) (hb : b < 2 ^ 31) : (if nI a < nI b then nI b else nI a) = nI (Nat.max a b) := by
  by_cases h : a < b
  · rw [if_pos ((nI_ltI ha hb).mpr h), show Nat.max a b = b from Nat.max_eq_right (by omega)]
  · rw [if_neg (mt (nI_ltI ha hb).mp h), show Nat.max a b = a from Nat.max_eq_left (by omega)]
theorem mm_min {a b : Nat} (ha : a < 2 ^ 31) (hb : b < 2 ^ 31) : (if nI b < nI a then nI b else nI a) = nI (Nat.min a b) := by
  by_cases h : b < a
  · rw [if_pos ((nI_ltI hb ha).mpr h), show Nat.min a b = b from Nat.min_eq_right (by omega)]
  · rw [if_neg (mt (nI_ltI hb ha).mp h), show Nat.min a b = a from Nat.min_eq_left (by omega)]
set_option maxHeartbeats 1000000 in
set_option maxRecDepth 100000 in
/-- newLength of small numbers -/
theorem q_AS_newLength (l : Launch) (dC : Nat → ClassId) (dI : Nat → Nat → Nat) (o : Nat) (g : Nat) (k : Nat) (ho : o < 65536) (hg : g < 65536) (hk : k < 65536) (h0 : 0 < o + Nat.max g k) : Met l y_AS_newLength ws_AS_newLength ({ frames := 1, cells := 0, slots := 0, locals := 14 }) (va_Pc [.int (nI o), .int (nI g), .int (nI k)] (fun U => va_P (dC, dI) vwCl [] U.heap ∧ va_K (dC, dI) vwCl [] U)) (vp_Si (fun (r : Int32) => r = nI (o + Nat.max g k))) 0 0 (fun _ => False) := by
  refine Met.ofW (cc := c_AS_newLength) (maxL := 4) (ret := (some .int)) (by decide) rfl ?_
  intro p e s m args below meth c s₁ B hml hv
  obtain ⟨rfl, hP, hK⟩ := hv
  have hx := B.exec
  have hb := B.bytes
  have hr := B.returns
  have hts := atoms_spec (ws := ws_AS_newLength) B.pre
  have htb := fun w (h : w ∈ TBL) => hts w (List.mem_cons_of_mem _ h)
  have hown : s.vm.findClass R_AS = some m.cls := findClass_of_methodNamed B.named
  have hlocks := B.notSynchronized
  have hl := lv_entry ([.int (nI o), .int (nI g), .int (nI k)]) (n := 4) (Nat.le_of_ble_eq_true rfl)
  rw [lg_entry_eq]
  generalize (lg_sl ([.int (nI o), .int (nI g), .int (nI k)]) ++ List.replicate (4 - (lg_sl ([.int (nI o), .int (nI g), .int (nI k)])).length) Slot.unset).toArray = ls at hl ⊢
  have hl : lv_has ls 4 [(0, .int (nI o)), (1, .int (nI g)), (2, .int (nI k))] := hl
  have hmx : Nat.max g k < 65536 := by rw [show Nat.max g k = max g k from rfl, Nat.max_def]; split <;> omega
  refine lv_iload_n hx hb d_AS_newLength_0 rfl (lv_at hl 0 rfl) ?_
  refine lv_iload_n hx hb d_AS_newLength_1 rfl (lv_at hl 1 rfl) ?_
  refine lv_iload_n hx hb d_AS_newLength_2 rfl (lv_at hl 2 rfl) ?_
  refine va_mmax hx hb (hml.trans hl.1.symm) hown (htb _ m_211) (htb _ m_212) (htb _ m_13) (htb _ m_213) (Nat.le_of_ble_eq_true rfl) (Nat.le_of_ble_eq_true rfl) (Nat.le_of_ble_eq_true rfl) (Nat.le_of_ble_eq_true rfl) d_AS_newLength_3 ?_
  refine W.eq (congrArg (fun z => F0 m 6 ls (.int z :: [.int (nI o)])) (mm_max (by omega) (by omega) : (if (nI g) < (nI k) then (nI k) else (nI g)) = nI (Nat.max g k))) ?_
  refine lv_iadd hx hb d_AS_newLength_6 ?_
  refine W.eq (congrArg (fun z => F0 m 7 ls (.int z :: [])) (nI_add _ _ : ((nI o) + (nI (Nat.max g k))) = nI (o + Nat.max g k))) ?_
  refine lv_istore_n hx hb d_AS_newLength_7 rfl hl (by decide) rfl (fun ls hl => ?_)
  have hl : lv_has ls 4 [(3, .int (nI (o + Nat.max g k))), (0, .int (nI o)), (1, .int (nI g)), (2, .int (nI k))] := hl
  refine lv_iconst (v := 0) hx hb d_AS_newLength_8 (by decide) ?_
  refine lv_iload_n hx hb d_AS_newLength_9 rfl (lv_at hl 0 rfl) ?_
  refine lv_icmp_ge (tgt := 21) hx hb d_AS_newLength_10 rfl (fun h9 => absurd h9 (nI_nle h0 (by omega))) (fun _ => ?_)
  refine lv_iload_n hx hb d_AS_newLength_13 rfl (lv_at hl 0 rfl) ?_
  refine lv_ldc (v := 2147483639) hx hb hown (htb _ m_214) d_AS_newLength_14 ?_
  refine lv_icmp_gt (tgt := 21) hx hb d_AS_newLength_16 rfl (fun h9 => absurd h9 (nI_nlt (a := 2147483639) (b := o + Nat.max g k) (by omega) (by decide))) (fun _ => ?_)
  refine lv_iload_n hx hb d_AS_newLength_19 rfl (lv_at hl 0 rfl) ?_
  exact W.iret (v := (nI (o + Nat.max g k))) hx hb hr (fun t ht hW => ⟨(nI (o + Nat.max g k)), rfl, rfl, ht⟩) (fun q h => absurd h List.not_mem_nil) d_AS_newLength_20
