/-! rows in the model's arrays -/
def bsK (tr : Nat) : Nat := if tr ≤ 7 then 32 * tr else if tr = 8 then 384 else 480
/-- the first row from r on whose level is not above x; n where there is none -/
def bhd (lv : Nat → Nat) (n x r : Nat) : Nat := if r < n then (if x < lv r then bhd lv n x (r + 1) else r) else r
termination_by n - r
theorem bhd_ge (lv : Nat → Nat) (n x : Nat) : ∀ (k r : Nat), n - r ≤ k → r ≤ bhd lv n x r ∧ (r ≤ n → bhd lv n x r ≤ n)
  | 0, r, h => by
    rw [bhd, if_neg (by omega)]
    exact ⟨Nat.le_refl _, id⟩
  | k + 1, r, h => by
    rw [bhd]
    split
    · split
      · have := bhd_ge lv n x k (r + 1) (by omega)
        exact ⟨by omega, fun _ => this.2 (by omega)⟩
      · exact ⟨Nat.le_refl _, id⟩
    · exact ⟨Nat.le_refl _, id⟩
theorem bhd_gt (lv : Nat → Nat) (n x r : Nat) : r < bhd lv n x (r + 1) := (bhd_ge lv n x _ (r + 1) (Nat.le_refl _)).1
theorem bhd_le (lv : Nat → Nat) (n x r : Nat) (h : r ≤ n) : bhd lv n x r ≤ n := (bhd_ge lv n x _ r (Nat.le_refl _)).2 h
/-- the member with the name tx among the rows r .. e of one level -/
def mbr (lv : Nat → Nat) (nmf : Nat → List Nat) (n e : Nat) (tx : List Nat) (r : Nat) : Option Nat := if r < e then (if nmf r = tx then some r else mbr lv nmf n e tx (bhd lv n (lv r) (r + 1))) else none
termination_by e - r
decreasing_by have := bhd_gt lv n (lv r) r; omega
/-- a text in the pool -/
def TXP (pf : Nat → Int32) (pn p : Nat) (tx : List Nat) : Prop := p + tx.length ≤ pn ∧ (∀ c ∈ tx, c < 128) ∧ ∀ j, j < tx.length → pf (p + j) = nI (tx.getD j 0)
/-- a value that is no array and no object: kind, number, text, letters left -/
def scl (sg : Bool) (R : List Nat) : Option ((Nat × Int × List Nat) × List Nat) :=
  if (decide (hd0 R = 45) || isDig (hd0 R)) = true then (num R).map (fun q => ((3, q.1, []), q.2))
  else if hd0 R = 110 then (pfx [117, 108, 108] (R.drop 1)).map (fun q => ((0, 0, []), q))
  else if hd0 R = 116 then (pfx [114, 117, 101] (R.drop 1)).map (fun q => ((1, 0, []), q))
  else if hd0 R = 102 then (pfx [97, 108, 115, 101] (R.drop 1)).map (fun q => ((2, 0, []), q))
  else if hd0 R = 34 ∨ (sg = true ∧ hd0 R = 39) then (qtd (hd0 R) (R.drop 1)).map (fun q => ((4, 0, q.1), q.2))
  else none
theorem nI_mul32 : ∀ tr, tr ≤ 7 → (32 : Int32) * nI tr = nI (32 * tr) := by decide +kernel
theorem bsK_le {tr : Nat} (h : tr < 10) : bsK tr ≤ 480 := by unfold bsK; split; omega; split <;> omega
theorem iw_end {nm tx : List Nat} {k : Nat} {bb : Bool} (h1 : nm.length = tx.length) (h2 : nm.length ≤ k) (hk : (bb = true ∧ ∀ i, i < k → nm.getD i 0 = tx.getD i 0) ∨ (bb = false ∧ nm ≠ tx)) : bI bb = bI (decide (nm = tx)) := by
  rcases hk with ⟨h, he⟩ | ⟨h, he⟩
  · rw [h, decide_eq_true (tx_ext h1 (fun i hi => he i (by omega)))]
  · rw [h, decide_eq_false he]
theorem iw_no {nm tx : List Nat} {k : Nat} {bb : Bool} (hb : bb = false) (hk : (bb = true ∧ ∀ i, i < k → nm.getD i 0 = tx.getD i 0) ∨ (bb = false ∧ nm ≠ tx)) : bI bb = bI (decide (nm = tx)) := by
  rcases hk with ⟨h, he⟩ | ⟨h, he⟩
  · rw [h] at hb; cases hb
  · rw [h, decide_eq_false he]
theorem iw_old {nm tx : List Nat} {k : Nat} {bb : Bool} (hb : bb = true) (hk : (bb = true ∧ ∀ i, i < k → nm.getD i 0 = tx.getD i 0) ∨ (bb = false ∧ nm ≠ tx)) : ∀ i, i < k → nm.getD i 0 = tx.getD i 0 := by
  rcases hk with ⟨_, he⟩ | ⟨h, _⟩
  · exact he
  · rw [h] at hb; cases hb
set_option maxHeartbeats 1000000 in
set_option maxRecDepth 100000 in
theorem q_MO_base (l : Launch) (dC : Nat → ClassId) (dI : Nat → Nat → Nat) (tr : Nat) (htr : tr < 10) : Met l y_MO_base ws_MO_base ({ frames := 0, cells := 0, slots := 0, locals := 0 }) (va_Pc [.int (nI tr)] (fun U => va_P (dC, dI) vwCl [] U.heap ∧ va_K (dC, dI) vwCl [] U)) (vp_Si (fun (r : Int32) => r = nI (bsK tr))) 0 0 (fun _ => False) := by
  refine Met.ofW (cc := c_MO_base) (maxL := 1) (ret := (some .int)) (by decide) rfl ?_
  intro p e s m args below meth c s₁ B hml hv
  obtain ⟨rfl, hP, hK⟩ := hv
  have hx := B.exec
  have hb := B.bytes
  have hr := B.returns
  have hts := atoms_spec (ws := ws_MO_base) B.pre
  have htb := fun w (h : w ∈ TBL) => hts w (List.mem_cons_of_mem _ h)
  have hown : s.vm.findClass R_MO = some m.cls := findClass_of_methodNamed B.named
  have hlocks := B.notSynchronized
  have hl := lv_entry ([.int (nI tr)]) (n := 1) (Nat.le_of_ble_eq_true rfl)
  rw [lg_entry_eq]
  generalize (lg_sl ([.int (nI tr)]) ++ List.replicate (1 - (lg_sl ([.int (nI tr)])).length) Slot.unset).toArray = ls at hl ⊢
  have hl : lv_has ls 1 [(0, .int (nI tr))] := hl
  refine lv_iload_n hx hb d_MO_base_0 rfl (lv_at hl 0 rfl) ?_
  refine lv_bipush (v := 7) hx hb d_MO_base_1 (by decide) ?_
  refine lv_icmp_gt (tgt := 13) hx hb d_MO_base_3 rfl (fun h1 => ?_) (fun h1 => ?_)
  · have h1 : 7 < tr := (nI_ltI (by decide) (by omega)).mp h1
    refine lv_iload_n hx hb d_MO_base_13 rfl (lv_at hl 0 rfl) ?_
    refine lv_bipush (v := 8) hx hb d_MO_base_14 (by decide) ?_
    refine lv_icmp_ne (tgt := 25) hx hb d_MO_base_16 rfl (fun h2 => ?_) (fun h2 => ?_)
    · have h2 : ¬ tr = 8 := fun h => h2 (by rw [h]; rfl)
      refine lv_sipush (v := 480) hx hb d_MO_base_25 (by decide) ?_
      exact W.iret (v := 480) hx hb hr (fun t ht hW => ⟨480, rfl, by rw [bsK, if_neg (by omega), if_neg h2]; rfl, ht⟩) (fun q h => absurd h List.not_mem_nil) d_MO_base_28
    · have h2 : tr = 8 := (nI_eq (by omega) (by decide)).mp h2
      refine lv_sipush (v := 384) hx hb d_MO_base_19 (by decide) ?_
      refine lv_goto (tgt := 28) hx hb d_MO_base_22 rfl ?_
      exact W.iret (v := 384) hx hb hr (fun t ht hW => ⟨384, rfl, by rw [bsK, if_neg (by omega), if_pos h2]; rfl, ht⟩) (fun q h => absurd h List.not_mem_nil) d_MO_base_28
  · have h1 : tr ≤ 7 := Nat.not_lt.mp (fun h => h1 ((nI_ltI (by decide) (by omega)).mpr h))
    refine lv_bipush (v := 32) hx hb d_MO_base_6 (by decide) ?_
    refine lv_iload_n hx hb d_MO_base_8 rfl (lv_at hl 0 rfl) ?_
    refine lv_imul hx hb d_MO_base_9 ?_
    refine W.eq (congrArg (fun z => F0 m 10 ls (.int z :: [])) (nI_mul32 tr h1 : (32 * (nI tr)) = nI (32 * tr))) ?_
    refine lv_goto (tgt := 28) hx hb d_MO_base_10 rfl ?_
    exact W.iret (v := (nI (32 * tr))) hx hb hr (fun t ht hW => ⟨(nI (32 * tr)), rfl, by rw [bsK, if_pos h1], ht⟩) (fun q h => absurd h List.not_mem_nil) d_MO_base_28
set_option maxHeartbeats 1000000 in
set_option maxRecDepth 100000 in
/-- behind(tree, row) -/
theorem q_MO_behind (l : Launch) (dC : Nat → ClassId) (dI : Nat → Nat → Nat) (y : Nat) (lim : Int32) (rm : Int32) (i_literal : Int64) (a_size : Nat) (a_kind : Nat) (a_level : Nat) (a_at : Nat) (a_len : Nat) (a_nameAt : Nat) (a_nameLen : Nat) (a_num : Nat) (a_pool : Nat) (a_draft : Nat) (a_open : Nat) (a_word : Nat) (a_list : Nat) (a_next : Nat) (a_result : Nat) (a_twin : Nat) (a_came : Nat) (a_closer : Nat) (i_pooled : Int32) (i_drafted : Int32) (i_pos : Int32) (i_code : Int32) (i_opened : Int32) (i_heldAt : Int32) (i_heldLen : Int32) (i_letters : Int32) (i_literalKind : Int32) (i_bad : Int32) (i_given : Int32) (i_listed : Int32) (i_found : Int32) (i_last : Int32) (i_results : Int32) (i_full : Int32) (i_working : Int32) (i_seen : Int32) (i_wanted : Int32) (i_got : Int32) (cI : ClassId) (sf : Nat → Int32) (vf : Nat → Int32) (tr : Nat) (n : Nat) (lv : Nat → Nat) (i : Nat) (htr : tr < 10) (hsf : sf tr = nI n) (hn : bsK tr + n ≤ 576) (hlv : ∀ j, j < n → vf (bsK tr + j) = nI (lv j) ∧ lv j < 1000) (hi : i < n) : Met l y_MO_behind ws_MO_behind ({ frames := 1, cells := 0, slots := 0, locals := 20 }) (va_Pc [.ref y, .int (nI tr), .int (nI (bsK tr + i))] (fun U => va_P (dC, dI) vwCl [(y, .inr (12, [.int lim, .int rm, .ref a_size, .ref a_kind, .ref a_level, .ref a_at, .ref a_len, .ref a_nameAt, .ref a_nameLen, .ref a_num, .ref a_pool, .int i_pooled, .ref a_draft, .int i_drafted, .int i_pos, .int i_code, .ref a_open, .int i_opened, .int i_heldAt, .int i_heldLen, .ref a_word, .int i_letters, .int i_literalKind, .int i_bad, .int i_given, .long i_literal, .ref a_list, .ref a_next, .ref a_result, .int i_listed, .int i_found, .int i_last, .int i_results, .int i_full, .int i_working, .ref a_twin, .int i_seen, .int i_wanted, .int i_got, .ref a_came, .ref a_closer])), (a_size, .inl (cI, 10, .inl sf)), (a_level, .inl (cI, 576, .inl vf))] U.heap ∧ va_K (dC, dI) vwCl [(cI, .int)] U)) (vp_Si (fun (r : Int32) => r = nI (bsK tr + bhd lv n (lv i) (i + 1)))) 0 0 (fun _ => False) := by
  refine Met.ofW (cc := c_MO_behind) (maxL := 4) (ret := (some .int)) (by decide) rfl ?_
  intro p e s m args below meth c s₁ B hml hv
  obtain ⟨hargs, hP, hK⟩ := hv
  rw [show entryFrame m args 4 = entryFrame m ([.ref y, .int (nI tr), .int (nI (bsK tr + i))]).toArray 4 by rw [hargs]]
  have hx := B.exec
  have hb := B.bytes
  have hr := B.returns
  have hts := atoms_spec (ws := ws_MO_behind) B.pre
  have htb := fun w (h : w ∈ TBL) => hts w (List.mem_cons_of_mem _ h)
  have hown : s.vm.findClass R_MO = some m.cls := findClass_of_methodNamed B.named
  have hlocks := B.notSynchronized
  have hl := lv_entry ([.ref y, .int (nI tr), .int (nI (bsK tr + i))]) (n := 4) (Nat.le_of_ble_eq_true rfl)
  rw [lg_entry_eq]
  generalize (lg_sl ([.ref y, .int (nI tr), .int (nI (bsK tr + i))]) ++ List.replicate (4 - (lg_sl ([.ref y, .int (nI tr), .int (nI (bsK tr + i))])).length) Slot.unset).toArray = ls at hl ⊢
  have hl : lv_has ls 4 [(0, .ref y), (1, .int (nI tr)), (2, .int (nI (bsK tr + i)))] := hl
  refine zz_nQ (fun Q hQ => ?_)
  have hbs := bsK_le htr
  refine lv_iload_n hx hb d_MO_behind_0 rfl (lv_at hl 2 rfl) ?_
  refine lv_iconst (v := 1) hx hb d_MO_behind_1 (by decide) ?_
  refine lv_iadd hx hb d_MO_behind_2 ?_
  refine W.eq (congrArg (fun z => F0 m 3 ls (.int z :: [])) (nI_1 _ : ((nI (bsK tr + i)) + 1) = nI (bsK tr + (i + 1)))) ?_
  refine lv_istore_n hx hb d_MO_behind_3 rfl hl (by decide) rfl (fun ls hl => ?_)
  have hl : lv_has ls 4 [(3, .int (nI (bsK tr + (i + 1)))), (0, .ref y), (1, .int (nI tr)), (2, .int (nI (bsK tr + i)))] := hl
  have hloop : ∀ (k9 : Nat) (k : Nat) (ls : Array Slot), n - k = k9 → (i < k) → (k ≤ n) → (bhd lv n (lv i) k = bhd lv n (lv i) (i + 1)) → lv_has ls 4 [(3, .int (nI (bsK tr + k))), (0, .ref y), (1, .int (nI tr)), (2, .int (nI (bsK tr + i)))] → W p l e (headSpec ws_MO_behind ({ frames := 1, cells := 0, slots := 0, locals := 20 })).room s m args below meth c s.heap [] 0 0 Q (F0 m 4 ls []) := by
    intro k9
    induction k9 using Nat.strongRecOn with
    | ind k9 ih =>
      intro k ls hk9 hk0 hk1 hk2 hl
      refine lv_iload_n hx hb d_MO_behind_4 rfl (lv_at hl 0 rfl) ?_
      refine lv_iload_n hx hb d_MO_behind_5 rfl (lv_at hl 2 rfl) ?_
      have hPc : va_P (dC, dI) vwCl [] _ := hP.sub (ws' := []) [] rfl
      have hKc := hK.sub (tys' := []) [] rfl
      refine vp_callSi (W.runS (As := [.int (nI tr)]) (rest := [.int (nI (bsK tr + k))]) ⟨hx, hb, hml, hown, htb⟩ (q_MO_base l dC dI tr htr) (va_cwS 1 htb (g_S (fun _ h => h) m_1341 m_1339 m_1340 m_9) rfl rfl rfl (by decide +kernel) ⟨Nat.le_of_ble_eq_true rfl, Nat.le_of_ble_eq_true rfl⟩) ⟨fun a U g mk q => by obtain ⟨q0, qP, qK⟩ := q; exact ⟨q0, qP, va_K.moved (u := U) (U := U.calling g mk a) (Vm.Alike.refl U.vm) qK⟩, fun U hU hW => ⟨rfl, by rw [hU]; exact hPc, va_K.moved hW.alike hKc⟩⟩ rfl rfl hl.1 rfl (lv_room (Nat.le_of_ble_eq_true rfl)) d_MO_behind_6 ⟨Nat.le_of_ble_eq_true rfl, Nat.le_of_ble_eq_true rfl⟩) (fun r1 hw2 => ?_)
      have hw2 : r1 = nI (bsK tr) := hw2
      obtain rfl := hw2
      refine lv_aload_n hx hb d_MO_behind_9 rfl (lv_at hl 1 rfl) ?_
      refine va_get (D := (dC, dI)) (ci := 12) (v := .ref a_size) (C := R_MO) (T := T_MO) (N := 41) hx hb htb in_MO hown hK hP 0 rfl rfl 2 (by decide) (htb _ m_1141) (fun _ h9 => h9) rfl d_MO_behind_10 ?_
      refine lv_iload_n hx hb d_MO_behind_13 rfl (lv_at hl 2 rfl) ?_
      refine va_iald hx hb hK hP 1 0 rfl rfl (vp_in_nI (by omega) (by omega)) d_MO_behind_14 ?_
      refine W.eq (congrArg (fun z => F0 m 15 ls (.int z :: [.int (nI (bsK tr)), .int (nI (bsK tr + k))])) (by rw [nI_clamp (by omega)]; exact hsf : (sf (nI tr).toNatClampNeg) = nI n)) ?_
      refine lv_iadd hx hb d_MO_behind_15 ?_
      refine W.eq (congrArg (fun z => F0 m 16 ls (.int z :: [.int (nI (bsK tr + k))])) (nI_add _ _ : ((nI (bsK tr)) + (nI n)) = nI (bsK tr + n))) ?_
      refine lv_icmp_ge (tgt := 40) hx hb d_MO_behind_16 rfl (fun h1 => ?_) (fun h1 => ?_)
      · have h1 : n ≤ k := by have := (nI_leI (by omega) (by omega)).mp h1; omega
        refine lv_iload_n hx hb d_MO_behind_40 rfl (lv_at hl 0 rfl) ?_
        rw [hQ]
        exact W.iret (v := (nI (bsK tr + k))) hx hb hr (fun t ht hW => ⟨(nI (bsK tr + k)), rfl, by rw [← hk2, bhd, if_neg (by omega)], ht⟩) (fun q h => absurd h List.not_mem_nil) d_MO_behind_41
      · have h1 : k < n := Nat.not_le.mp (fun h => h1 ((nI_leI (a := bsK tr + n) (b := bsK tr + k) (by omega) (by omega)).mpr (by omega)))
        have hl1 := hlv k h1
        have hl2 := hlv i hi
        refine lv_aload_n hx hb d_MO_behind_19 rfl (lv_at hl 1 rfl) ?_
        refine va_get (D := (dC, dI)) (ci := 12) (v := .ref a_level) (C := R_MO) (T := T_MO) (N := 41) hx hb htb in_MO hown hK hP 0 rfl rfl 4 (by decide) (htb _ m_1143) (fun _ h9 => h9) rfl d_MO_behind_20 ?_
        refine lv_iload_n hx hb d_MO_behind_23 rfl (lv_at hl 0 rfl) ?_
        refine va_iald hx hb hK hP 2 0 rfl rfl (vp_in_nI (by omega) (by omega)) d_MO_behind_24 ?_
        refine W.eq (congrArg (fun z => F0 m 25 ls (.int z :: [])) (by rw [nI_clamp (by omega)]; exact hl1.1 : (vf (nI (bsK tr + k)).toNatClampNeg) = nI (lv k))) ?_
        refine lv_aload_n hx hb d_MO_behind_25 rfl (lv_at hl 1 rfl) ?_
        refine va_get (D := (dC, dI)) (ci := 12) (v := .ref a_level) (C := R_MO) (T := T_MO) (N := 41) hx hb htb in_MO hown hK hP 0 rfl rfl 4 (by decide) (htb _ m_1143) (fun _ h9 => h9) rfl d_MO_behind_26 ?_
        refine lv_iload_n hx hb d_MO_behind_29 rfl (lv_at hl 3 rfl) ?_
        refine va_iald hx hb hK hP 2 0 rfl rfl (vp_in_nI (by omega) (by omega)) d_MO_behind_30 ?_
        refine W.eq (congrArg (fun z => F0 m 31 ls (.int z :: [.int (nI (lv k))])) (by rw [nI_clamp (by omega)]; exact hl2.1 : (vf (nI (bsK tr + i)).toNatClampNeg) = nI (lv i))) ?_
        refine lv_icmp_le (tgt := 40) hx hb d_MO_behind_31 rfl (fun h2 => ?_) (fun h2 => ?_)
        · have h2 : lv k ≤ lv i := (nI_leI (by omega) (by omega)).mp h2
          refine lv_iload_n hx hb d_MO_behind_40 rfl (lv_at hl 0 rfl) ?_
          rw [hQ]
          exact W.iret (v := (nI (bsK tr + k))) hx hb hr (fun t ht hW => ⟨(nI (bsK tr + k)), rfl, by rw [← hk2, bhd, if_pos h1, if_neg (by omega)], ht⟩) (fun q h => absurd h List.not_mem_nil) d_MO_behind_41
        · have h2 : lv i < lv k := Nat.not_le.mp (fun h => h2 ((nI_leI (by omega) (by omega)).mpr h))
          refine lv_iinc (k := 0) (v := ((nI (bsK tr + k)) + Int32.ofInt 1)) hx hb d_MO_behind_34 hl rfl rfl (by decide) rfl (fun ls hl => ?_)
          have hl : lv_has ls 4 [(3, .int ((nI (bsK tr + k)) + Int32.ofInt 1)), (0, .ref y), (1, .int (nI tr)), (2, .int (nI (bsK tr + i)))] := hl
          rw [show nI (bsK tr + k) + Int32.ofInt 1 = nI (bsK tr + (k + 1)) from nI_1 _] at hl
          refine lv_goto (tgt := 4) hx hb d_MO_behind_37 rfl ?_
          exact ih (n - (k + 1)) (by omega) (k + 1) ls rfl (by omega) (by omega) (by rw [← hk2, bhd.eq_1 lv n (lv i) k, if_pos h1, if_pos h2]) (lv_sub hl [0, 1, 2, 3] rfl)
  exact hloop _ (i + 1) ls rfl (Nat.lt_succ_self _) (hi) (rfl) (lv_sub hl [0, 1, 2, 3] rfl)
set_option maxHeartbeats 1000000 in
set_option maxRecDepth 100000 in
/-- isWord(from, n) -/
theorem q_MO_isWord (l : Launch) (dC : Nat → ClassId) (dI : Nat → Nat → Nat) (y : Nat) (lim : Int32) (rm : Int32) (i_literal : Int64) (a_size : Nat) (a_kind : Nat) (a_level : Nat) (a_at : Nat) (a_len : Nat) (a_nameAt : Nat) (a_nameLen : Nat) (a_num : Nat) (a_pool : Nat) (a_draft : Nat) (a_open : Nat) (a_word : Nat) (a_list : Nat) (a_next : Nat) (a_result : Nat) (a_twin : Nat) (a_came : Nat) (a_closer : Nat) (i_pooled : Int32) (i_drafted : Int32) (i_pos : Int32) (i_code : Int32) (i_opened : Int32) (i_heldAt : Int32) (i_heldLen : Int32) (i_literalKind : Int32) (i_bad : Int32) (i_given : Int32) (i_listed : Int32) (i_found : Int32) (i_last : Int32) (i_results : Int32) (i_full : Int32) (i_working : Int32) (i_seen : Int32) (i_wanted : Int32) (i_got : Int32) (cC : ClassId) (pf : Nat → Int32) (wf : Nat → Int32) (pn : Nat) (pp : Nat) (nm : List Nat) (tx : List Nat) (hpt : TXP pf pn pp nm) (hpn : pn ≤ 8400) (hw : WRD tx wf) (hwl : tx.length ≤ 160) (hwc : ∀ c ∈ tx, c < 128) : Met l y_MO_isWord ws_MO_isWord ({ frames := 0, cells := 0, slots := 0, locals := 0 }) (va_Pc [.ref y, .int (nI pp), .int (nI nm.length)] (fun U => va_P (dC, dI) vwCl [(y, .inr (12, [.int lim, .int rm, .ref a_size, .ref a_kind, .ref a_level, .ref a_at, .ref a_len, .ref a_nameAt, .ref a_nameLen, .ref a_num, .ref a_pool, .int i_pooled, .ref a_draft, .int i_drafted, .int i_pos, .int i_code, .ref a_open, .int i_opened, .int i_heldAt, .int i_heldLen, .ref a_word, .int (nI tx.length), .int i_literalKind, .int i_bad, .int i_given, .long i_literal, .ref a_list, .ref a_next, .ref a_result, .int i_listed, .int i_found, .int i_last, .int i_results, .int i_full, .int i_working, .ref a_twin, .int i_seen, .int i_wanted, .int i_got, .ref a_came, .ref a_closer])), (a_pool, .inl (cC, 8400, .inl pf)), (a_word, .inl (cC, 160, .inl wf))] U.heap ∧ va_K (dC, dI) vwCl [(cC, .char)] U)) (vp_Si (fun (r : Int32) => r = bI (decide (nm = tx)))) 0 0 (fun _ => False) := by
  refine Met.ofW (cc := c_MO_isWord) (maxL := 5) (ret := (some .boolean)) (by decide) rfl ?_
  intro p e s m args below meth c s₁ B hml hv
  obtain ⟨hargs, hP, hK⟩ := hv
  rw [show entryFrame m args 5 = entryFrame m ([.ref y, .int (nI pp), .int (nI nm.length)]).toArray 5 by rw [hargs]]
  have hx := B.exec
  have hb := B.bytes
  have hr := B.returns
  have hts := atoms_spec (ws := ws_MO_isWord) B.pre
  have htb := fun w (h : w ∈ TBL) => hts w (List.mem_cons_of_mem _ h)
  have hown : s.vm.findClass R_MO = some m.cls := findClass_of_methodNamed B.named
  have hlocks := B.notSynchronized
  have hl := lv_entry ([.ref y, .int (nI pp), .int (nI nm.length)]) (n := 5) (Nat.le_of_ble_eq_true rfl)
  rw [lg_entry_eq]
  generalize (lg_sl ([.ref y, .int (nI pp), .int (nI nm.length)]) ++ List.replicate (5 - (lg_sl ([.ref y, .int (nI pp), .int (nI nm.length)])).length) Slot.unset).toArray = ls at hl ⊢
  have hl : lv_has ls 5 [(0, .ref y), (1, .int (nI pp)), (2, .int (nI nm.length))] := hl
  refine zz_nQ (fun Q hQ => ?_)
  have hp1 := hpt.1
  have hp2 := hpt.2.1
  have hp3 := hpt.2.2
  refine lv_iload_n hx hb d_MO_isWord_0 rfl (lv_at hl 2 rfl) ?_
  refine lv_aload_n hx hb d_MO_isWord_1 rfl (lv_at hl 0 rfl) ?_
  refine va_get (D := (dC, dI)) (ci := 12) (v := .int (nI tx.length)) (C := R_MO) (T := T_MO) (N := 41) hx hb htb in_MO hown hK hP 0 rfl rfl 21 (by decide) (htb _ m_1160) (fun _ h9 => h9) rfl d_MO_isWord_2 ?_
  refine lv_icmp_ne (tgt := 12) hx hb d_MO_isWord_5 rfl (fun h1 => ?_) (fun h1 => ?_)
  · have h1 : ¬ nm.length = tx.length := fun h => h1 (by rw [h])
    refine lv_iconst (v := 0) hx hb d_MO_isWord_12 (by decide) ?_
    refine lv_istore_n hx hb d_MO_isWord_13 rfl hl (by decide) rfl (fun ls hl => ?_)
    have hl : lv_has ls 5 [(3, .int 0), (0, .ref y), (1, .int (nI pp)), (2, .int (nI nm.length))] := hl
    refine lv_iconst (v := 0) hx hb d_MO_isWord_14 (by decide) ?_
    refine lv_istore hx hb d_MO_isWord_15 hl (by decide) rfl (fun ls hl => ?_)
    have hl : lv_has ls 5 [(4, .int 0), (3, .int 0), (0, .ref y), (1, .int (nI pp)), (2, .int (nI nm.length))] := hl
    refine lv_iload hx hb d_MO_isWord_17 (lv_at hl 0 rfl) ?_
    refine lv_iload_n hx hb d_MO_isWord_19 rfl (lv_at hl 4 rfl) ?_
    have hd9 : decide (nm = tx) = false := decide_eq_false (fun h => h1 (by rw [h]))
    refine lv_icmp_ge (tgt := 58) hx hb d_MO_isWord_20 rfl (fun h2 => ?_) (fun h2 => ?_)
    · refine lv_iload_n hx hb d_MO_isWord_58 rfl (lv_at hl 1 rfl) ?_
      rw [hQ]
      exact W.zret (v := 0) hx hb hr (by decide) (fun t ht hW => ⟨0, rfl, by rw [hd9]; rfl, ht⟩) (fun q h => absurd h List.not_mem_nil) d_MO_isWord_59
    · refine lv_iload_n hx hb d_MO_isWord_23 rfl (lv_at hl 1 rfl) ?_
      refine lv_if_eq (tgt := 58) hx hb d_MO_isWord_24 rfl (fun _ => ?_) (fun h9 => absurd (rfl) h9)
      refine lv_iload_n hx hb d_MO_isWord_58 rfl (lv_at hl 1 rfl) ?_
      rw [hQ]
      exact W.zret (v := 0) hx hb hr (by decide) (fun t ht hW => ⟨0, rfl, by rw [hd9]; rfl, ht⟩) (fun q h => absurd h List.not_mem_nil) d_MO_isWord_59
  · have h1 : nm.length = tx.length := (nI_eq (by omega) (by omega)).mp h1
    refine lv_iconst (v := 1) hx hb d_MO_isWord_8 (by decide) ?_
    refine lv_goto (tgt := 13) hx hb d_MO_isWord_9 rfl ?_
    refine lv_istore_n hx hb d_MO_isWord_13 rfl hl (by decide) rfl (fun ls hl => ?_)
    have hl : lv_has ls 5 [(3, .int 1), (0, .ref y), (1, .int (nI pp)), (2, .int (nI nm.length))] := hl
    refine lv_iconst (v := 0) hx hb d_MO_isWord_14 (by decide) ?_
    refine lv_istore hx hb d_MO_isWord_15 hl (by decide) rfl (fun ls hl => ?_)
    have hl : lv_has ls 5 [(4, .int 0), (3, .int 1), (0, .ref y), (1, .int (nI pp)), (2, .int (nI nm.length))] := hl
    have hloop : ∀ (k9 : Nat) (k : Nat) (bb : Bool) (ls : Array Slot), nm.length - k = k9 → (k ≤ nm.length) → ((bb = true ∧ ∀ i, i < k → nm.getD i 0 = tx.getD i 0) ∨ (bb = false ∧ nm ≠ tx)) → lv_has ls 5 [(4, .int (nI k)), (3, .int (bI bb)), (0, .ref y), (1, .int (nI pp)), (2, .int (nI nm.length))] → W p l e (headSpec ws_MO_isWord ({ frames := 0, cells := 0, slots := 0, locals := 0 })).room s m args below meth c s.heap [] 0 0 Q (F0 m 17 ls []) := by
      intro k9
      induction k9 using Nat.strongRecOn with
      | ind k9 ih =>
        intro k bb ls hk9 hk1 hk2 hl
        refine lv_iload hx hb d_MO_isWord_17 (lv_at hl 0 rfl) ?_
        refine lv_iload_n hx hb d_MO_isWord_19 rfl (lv_at hl 4 rfl) ?_
        refine lv_icmp_ge (tgt := 58) hx hb d_MO_isWord_20 rfl (fun h2 => ?_) (fun h2 => ?_)
        · have h2 : nm.length ≤ k := (nI_leI (by omega) (by omega)).mp h2
          refine lv_iload_n hx hb d_MO_isWord_58 rfl (lv_at hl 1 rfl) ?_
          rw [hQ]
          exact W.zret (v := (bI bb)) hx hb hr (by cases bb <;> decide) (fun t ht hW => ⟨(bI bb), rfl, iw_end h1 h2 hk2, ht⟩) (fun q h => absurd h List.not_mem_nil) d_MO_isWord_59
        · have h2 : k < nm.length := Nat.not_le.mp (fun h => h2 ((nI_leI (by omega) (by omega)).mpr h))
          refine lv_iload_n hx hb d_MO_isWord_23 rfl (lv_at hl 1 rfl) ?_
          refine lv_if_eq (tgt := 58) hx hb d_MO_isWord_24 rfl (fun h3 => ?_) (fun h3 => ?_)
          · have hb0 : bb = false := bI_eq.mp h3
            refine lv_iload_n hx hb d_MO_isWord_58 rfl (lv_at hl 1 rfl) ?_
            rw [hQ]
            exact W.zret (v := (bI bb)) hx hb hr (by cases bb <;> decide) (fun t ht hW => ⟨(bI bb), rfl, iw_no hb0 hk2, ht⟩) (fun q h => absurd h List.not_mem_nil) d_MO_isWord_59
          · have hb1 : bb = true := bI_ne.mp h3
            have hc1 : nm.getD k 0 < 128 := by rw [List.getD_eq_getElem?_getD, List.getElem?_eq_getElem h2]; exact hp2 _ (List.getElem_mem _)
            have hc2 : tx.getD k 0 < 128 := by rw [List.getD_eq_getElem?_getD, List.getElem?_eq_getElem (by omega)]; exact hwc _ (List.getElem_mem _)
            refine lv_aload_n hx hb d_MO_isWord_27 rfl (lv_at hl 2 rfl) ?_
            refine va_get (D := (dC, dI)) (ci := 12) (v := .ref a_pool) (C := R_MO) (T := T_MO) (N := 41) hx hb htb in_MO hown hK hP 0 rfl rfl 10 (by decide) (htb _ m_1149) (fun _ h9 => h9) rfl d_MO_isWord_28 ?_
            refine lv_iload_n hx hb d_MO_isWord_31 rfl (lv_at hl 3 rfl) ?_
            refine lv_iload hx hb d_MO_isWord_32 (lv_at hl 0 rfl) ?_
            refine lv_iadd hx hb d_MO_isWord_34 ?_
            refine W.eq (congrArg (fun z => F0 m 35 ls (.int z :: [.ref a_pool])) (nI_add _ _ : ((nI pp) + (nI k)) = nI (pp + k))) ?_
            refine va_cald hx hb hK hP 1 0 rfl rfl (vp_in_nI (by omega) (by omega)) d_MO_isWord_35 ?_
            refine W.eq (congrArg (fun z => F0 m 36 ls (.int z :: [])) (by rw [nI_clamp (by omega)]; exact hp3 k h2 : (pf (nI (pp + k)).toNatClampNeg) = nI (nm.getD k 0))) ?_
            refine lv_aload_n hx hb d_MO_isWord_36 rfl (lv_at hl 2 rfl) ?_
            refine va_get (D := (dC, dI)) (ci := 12) (v := .ref a_word) (C := R_MO) (T := T_MO) (N := 41) hx hb htb in_MO hown hK hP 0 rfl rfl 20 (by decide) (htb _ m_1159) (fun _ h9 => h9) rfl d_MO_isWord_37 ?_
            refine lv_iload hx hb d_MO_isWord_40 (lv_at hl 0 rfl) ?_
            refine va_cald hx hb hK hP 2 0 rfl rfl (vp_in_nI (by omega) (by omega)) d_MO_isWord_42 ?_
            refine W.eq (congrArg (fun z => F0 m 43 ls (.int z :: [.int (nI (nm.getD k 0))])) (by rw [nI_clamp (by omega)]; exact hw k (by omega) : (wf (nI k).toNatClampNeg) = nI (tx.getD k 0))) ?_
            refine lv_icmp_ne (tgt := 50) hx hb d_MO_isWord_43 rfl (fun h4 => ?_) (fun h4 => ?_)
            · refine lv_iconst (v := 0) hx hb d_MO_isWord_50 (by decide) ?_
              refine lv_istore_n hx hb d_MO_isWord_51 rfl hl (by decide) rfl (fun ls hl => ?_)
              have hl : lv_has ls 5 [(3, .int 0), (4, .int (nI k)), (0, .ref y), (1, .int (nI pp)), (2, .int (nI nm.length))] := hl
              refine lv_iinc (k := 1) (v := ((nI k) + Int32.ofInt 1)) hx hb d_MO_isWord_52 hl rfl rfl (by decide) rfl (fun ls hl => ?_)
              have hl : lv_has ls 5 [(4, .int ((nI k) + Int32.ofInt 1)), (3, .int 0), (0, .ref y), (1, .int (nI pp)), (2, .int (nI nm.length))] := hl
              rw [show nI k + Int32.ofInt 1 = nI (k + 1) from nI_1 _] at hl
              refine lv_goto (tgt := 17) hx hb d_MO_isWord_55 rfl ?_
              exact ih (nm.length - (k + 1)) (by omega) (k + 1) false ls rfl (by omega) (Or.inr ⟨rfl, fun h => h4 (by rw [h])⟩) (lv_sub hl [0, 1, 2, 3, 4] rfl)
            · refine lv_iconst (v := 1) hx hb d_MO_isWord_46 (by decide) ?_
              refine lv_goto (tgt := 51) hx hb d_MO_isWord_47 rfl ?_
              refine lv_istore_n hx hb d_MO_isWord_51 rfl hl (by decide) rfl (fun ls hl => ?_)
              have hl : lv_has ls 5 [(3, .int 1), (4, .int (nI k)), (0, .ref y), (1, .int (nI pp)), (2, .int (nI nm.length))] := hl
              refine lv_iinc (k := 1) (v := ((nI k) + Int32.ofInt 1)) hx hb d_MO_isWord_52 hl rfl rfl (by decide) rfl (fun ls hl => ?_)
              have hl : lv_has ls 5 [(4, .int ((nI k) + Int32.ofInt 1)), (3, .int 1), (0, .ref y), (1, .int (nI pp)), (2, .int (nI nm.length))] := hl
              rw [show nI k + Int32.ofInt 1 = nI (k + 1) from nI_1 _] at hl
              refine lv_goto (tgt := 17) hx hb d_MO_isWord_55 rfl ?_
              exact ih (nm.length - (k + 1)) (by omega) (k + 1) true ls rfl (by omega) (Or.inl ⟨rfl, fun i hi => by rcases Nat.lt_succ_iff_lt_or_eq.mp hi with h | rfl; exact iw_old hb1 hk2 i h; exact (nI_eq (by omega) (by omega)).mp h4⟩) (lv_sub hl [0, 1, 2, 3, 4] rfl)
    exact hloop _ 0 true ls rfl (Nat.zero_le _) (Or.inl ⟨rfl, fun i hi => absurd hi (Nat.not_lt_zero _)⟩) (lv_sub hl [0, 1, 2, 3, 4] rfl)
