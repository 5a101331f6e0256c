theorem KID.pos {d k : Nat} {rows : List Row} {p l t : Nat} {ns : List (List Nat)} {rs : List (List Row)} (h : KID d k rows p l ns rs) (ht : t < rs.length) : slen (rs.take t) < slen (rs.take (t + 1)) := by
  have hw : WR d (rs.getD t []) := by
    rw [List.getD_eq_getElem?_getD, List.getElem?_eq_getElem ht]
    exact h.2.1 _ (List.getElem_mem ht)
  have hpos : 0 < (rs.getD t []).length := by
    cases d with
    | zero => exact hw.elim
    | succ d => obtain ⟨k, num, rt, ns', rs', e, _⟩ := hw; rw [e]; simp
  rw [slen_take ht]; omega
theorem slen_le {rs : List (List Row)} : ∀ t, slen (rs.take t) ≤ slen rs := by
  intro t
  have h : slen (rs.take t ++ rs.drop t) = slen rs := by rw [List.take_append_drop]
  have h2 : slen (rs.take t ++ rs.drop t) = slen (rs.take t) + slen (rs.drop t) := by simp only [slen, List.map_append, List.sum_append]
  omega
theorem KID.lt_all {d k : Nat} {rows : List Row} {p l t : Nat} {ns : List (List Nat)} {rs : List (List Row)} (h : KID d k rows p l ns rs) (ht : t < rs.length) : slen (rs.take t) < slen rs := by
  have h1 := h.pos ht
  have h2 := slen_le (rs := rs) (t + 1)
  omega
theorem kid_len {d : Nat} : ∀ {rs : List (List Row)}, (∀ r ∈ rs, WR d r) → rs.length ≤ slen rs
  | [], _ => Nat.zero_le _
  | r :: rs, h => by
    have h1 := kid_len (fun r hr => h r (List.mem_cons_of_mem _ hr)) (rs := rs)
    have hw := h r List.mem_cons_self
    have hpos : 0 < r.length := by
      cases d with
      | zero => exact hw.elim
      | succ d => obtain ⟨k, num, rt, ns', rs', e, _⟩ := hw; rw [e]; simp
    rw [show slen (r :: rs) = r.length + slen rs by simp [slen], List.length_cons]
    omega
theorem lt_of_nI {k : Int32} {n : Nat} (h1 : ¬ k < 0) (h2 : ¬ nI n ≤ k) (hn : n < 1000) : k.toNatClampNeg < n ∧ k = nI k.toNatClampNeg := by
  have a1 : 0 ≤ k.toInt := by simpa using Int32.le_iff_toInt_le.mp (Int32.not_lt.mp h1)
  have a2 : k.toInt < n := by
    have := Int32.lt_iff_toInt_lt.mp (Int32.not_le.mp h2)
    rwa [nI_toInt (by omega)] at this
  have e : k.toNatClampNeg = k.toInt.toNat := rfl
  refine ⟨by rw [e]; omega, ?_⟩
  apply Int32.toInt_inj.mp
  rw [nI_toInt (by rw [e]; omega), e]
  omega
theorem ge_of_nI {k : Int32} {n : Nat} (h1 : ¬ k < 0) (h2 : ¬ k < nI n) (hn : n < 1000) : ¬ k.toNatClampNeg < n := by
  have a1 : 0 ≤ k.toInt := by simpa using Int32.le_iff_toInt_le.mp (Int32.not_lt.mp h1)
  have a2 : (n : Int) ≤ k.toInt := by
    have := Int32.le_iff_toInt_le.mp (Int32.not_lt.mp h2)
    rwa [nI_toInt (by omega)] at this
  have e : k.toNatClampNeg = k.toInt.toNat := rfl
  rw [e]; omega
set_option maxHeartbeats 1000000 in
set_option maxRecDepth 100000 in
/-- inside(tree, row) -/
theorem q_MO_inside (l : Launch) (dC : Nat → ClassId) (dI : Nat → Nat → Nat) (y : Nat) (lim : Int32) (rm : Int32) (i_literal : Int64) (a_size : Nat) (a_kind : Nat) (a_level : Nat) (a_at : Nat) (a_len : Nat) (a_nameAt : Nat) (a_nameLen : Nat) (a_num : Nat) (a_pool : Nat) (a_draft : Nat) (a_open : Nat) (a_word : Nat) (a_list : Nat) (a_next : Nat) (a_result : Nat) (a_twin : Nat) (a_came : Nat) (a_closer : Nat) (i_pooled : Int32) (i_drafted : Int32) (i_pos : Int32) (i_code : Int32) (i_opened : Int32) (i_heldAt : Int32) (i_heldLen : Int32) (i_letters : Int32) (i_literalKind : Int32) (i_bad : Int32) (i_given : Int32) (i_listed : Int32) (i_found : Int32) (i_last : Int32) (i_results : Int32) (i_full : Int32) (i_working : Int32) (i_seen : Int32) (i_wanted : Int32) (i_got : Int32) (cI : ClassId) (sf : Nat → Int32) (vf : Nat → Int32) (tr : Nat) (rows : List Row) (i : Nat) (lvl : Nat) (nm : List Nat) (k : Nat) (num : Int) (rt : List Nat) (ns : List (List Nat)) (rs : List (List Row)) (d : Nat) (htr : tr < 10) (hsf : sf tr = nI rows.length) (hn : bsK tr + rows.length ≤ 576) (hlv : ∀ j, j < rows.length → vf (bsK tr + j) = nI (lvR rows j) ∧ lvR rows j < 1000) (hsub : SUB rows i lvl nm ((k, 0, num, rt, []) :: kidRows k ns rs)) (hw : WR (d + 1) ((k, 0, num, rt, []) :: kidRows k ns rs)) (hnr : ns.length = rs.length) (hws : ∀ r ∈ rs, WR d r) : Met l y_MO_inside ws_MO_inside ({ frames := 2, cells := 0, slots := 0, locals := 43 }) (va_Pc [.ref y, .int (nI tr), .int (nI (bsK tr + i))] (fun U => va_P (dC, dI) vwCl [(y, .inr (12, [.int lim, .int rm, .ref a_size, .ref a_kind, .ref a_level, .ref a_at, .ref a_len, .ref a_nameAt, .ref a_nameLen, .ref a_num, .ref a_pool, .int i_pooled, .ref a_draft, .int i_drafted, .int i_pos, .int i_code, .ref a_open, .int i_opened, .int i_heldAt, .int i_heldLen, .ref a_word, .int i_letters, .int i_literalKind, .int i_bad, .int i_given, .long i_literal, .ref a_list, .ref a_next, .ref a_result, .int i_listed, .int i_found, .int i_last, .int i_results, .int i_full, .int i_working, .ref a_twin, .int i_seen, .int i_wanted, .int i_got, .ref a_came, .ref a_closer])), (a_size, .inl (cI, 10, .inl sf)), (a_level, .inl (cI, 576, .inl vf))] U.heap ∧ va_K (dC, dI) vwCl [(cI, .int)] U)) (vp_Si (fun (r : Int32) => r = nI rs.length)) 0 0 (fun _ => False) := by
  refine Met.ofW (cc := c_MO_inside) (maxL := 6) (ret := (some .int)) (by decide) rfl ?_
  intro p e s m args below meth c s₁ B hml hv
  obtain ⟨hargs, hP, hK⟩ := hv
  rw [show entryFrame m args 6 = entryFrame m ([.ref y, .int (nI tr), .int (nI (bsK tr + i))]).toArray 6 by rw [hargs]]
  have hx := B.exec
  have hb := B.bytes
  have hr := B.returns
  have hts := atoms_spec (ws := ws_MO_inside) B.pre
  have htb := fun w (h : w ∈ TBL) => hts w (List.mem_cons_of_mem _ h)
  have hown : s.vm.findClass R_MO = some m.cls := findClass_of_methodNamed B.named
  have hlocks := B.notSynchronized
  have hl := lv_entry ([.ref y, .int (nI tr), .int (nI (bsK tr + i))]) (n := 6) (Nat.le_of_ble_eq_true rfl)
  rw [lg_entry_eq]
  generalize (lg_sl ([.ref y, .int (nI tr), .int (nI (bsK tr + i))]) ++ List.replicate (6 - (lg_sl ([.ref y, .int (nI tr), .int (nI (bsK tr + i))])).length) Slot.unset).toArray = ls at hl ⊢
  have hl : lv_has ls 6 [(0, .ref y), (1, .int (nI tr)), (2, .int (nI (bsK tr + i)))] := hl
  refine zz_nQ (fun Q hQ => ?_)
  have hbs := bsK_le htr
  have hkid := hsub.kids hnr hws
  have hend := hsub.end_ hw hnr
  have hle := hsub.le
  have hle2 : i + (1 + slen rs) ≤ rows.length := by rw [List.length_cons, len_kids k ns rs hnr] at hle; omega
  have hrl : rs.length ≤ slen rs := kid_len hws
  refine lv_iconst (v := 0) hx hb d_MO_inside_0 (by decide) ?_
  refine lv_istore_n hx hb d_MO_inside_1 rfl hl (by decide) rfl (fun ls hl => ?_)
  have hl : lv_has ls 6 [(3, .int 0), (0, .ref y), (1, .int (nI tr)), (2, .int (nI (bsK tr + i)))] := hl
  refine lv_aload_n hx hb d_MO_inside_2 rfl (lv_at hl 1 rfl) ?_
  refine lv_iload_n hx hb d_MO_inside_3 rfl (lv_at hl 2 rfl) ?_
  refine lv_iload_n hx hb d_MO_inside_4 rfl (lv_at hl 3 rfl) ?_
  have hPc : va_P (dC, dI) vwCl [(y, .inr (12, [.int lim, .int rm, .ref a_size, .ref a_kind, .ref a_level, .ref a_at, .ref a_len, .ref a_nameAt, .ref a_nameLen, .ref a_num, .ref a_pool, .int i_pooled, .ref a_draft, .int i_drafted, .int i_pos, .int i_code, .ref a_open, .int i_opened, .int i_heldAt, .int i_heldLen, .ref a_word, .int i_letters, .int i_literalKind, .int i_bad, .int i_given, .long i_literal, .ref a_list, .ref a_next, .ref a_result, .int i_listed, .int i_found, .int i_last, .int i_results, .int i_full, .int i_working, .ref a_twin, .int i_seen, .int i_wanted, .int i_got, .ref a_came, .ref a_closer])), (a_size, .inl (cI, 10, .inl sf)), (a_level, .inl (cI, 576, .inl vf))] _ := hP.sub (ws' := [(y, .inr (12, [.int lim, .int rm, .ref a_size, .ref a_kind, .ref a_level, .ref a_at, .ref a_len, .ref a_nameAt, .ref a_nameLen, .ref a_num, .ref a_pool, .int i_pooled, .ref a_draft, .int i_drafted, .int i_pos, .int i_code, .ref a_open, .int i_opened, .int i_heldAt, .int i_heldLen, .ref a_word, .int i_letters, .int i_literalKind, .int i_bad, .int i_given, .long i_literal, .ref a_list, .ref a_next, .ref a_result, .int i_listed, .int i_found, .int i_last, .int i_results, .int i_full, .int i_working, .ref a_twin, .int i_seen, .int i_wanted, .int i_got, .ref a_came, .ref a_closer])), (a_size, .inl (cI, 10, .inl sf)), (a_level, .inl (cI, 576, .inl vf))]) [0, 1, 2] rfl
  have hKc := hK.sub (tys' := [(cI, .int)]) [0] rfl
  refine vp_callSi (W.runV (As := [.int (nI tr), .int (nI (bsK tr + i))]) (rest := []) ⟨hx, hb, hml, hown, htb⟩ (q_MO_behind l dC dI y lim rm i_literal a_size a_kind a_level a_at a_len a_nameAt a_nameLen a_num a_pool a_draft a_open a_word a_list a_next a_result a_twin a_came a_closer i_pooled i_drafted i_pos i_code i_opened i_heldAt i_heldLen i_letters i_literalKind i_bad i_given i_listed i_found i_last i_results i_full i_working i_seen i_wanted i_got cI sf vf tr rows.length (lvR rows) i htr hsf hn hlv (by omega)) (cwV 2 htb (g_V (fun _ h => h) m_1338 m_1335 m_1337 m_1662 m_9) rfl rfl rfl (by decide +kernel) ⟨Nat.le_of_ble_eq_true rfl, Nat.le_of_ble_eq_true rfl⟩) ⟨fun a U g mk q => by obtain ⟨q0, qP, qK⟩ := q; exact ⟨q0, qP, va_K.moved (u := U) (U := U.calling g mk a) (Vm.Alike.refl U.vm) qK⟩, va_recv hKc hPc (ci := 12) rfl (q0 := 0) rfl, fun U hU hW => ⟨rfl, by rw [hU]; exact hPc, va_K.moved hW.alike hKc⟩⟩ rfl rfl hl.1 rfl (lv_room (Nat.le_of_ble_eq_true rfl)) d_MO_inside_5 ⟨Nat.le_of_ble_eq_true rfl, Nat.le_of_ble_eq_true rfl⟩) (fun r1 hw2 => ?_)
  have hw2 : r1 = nI (bsK tr + bhd (lvR rows) rows.length ((lvR rows) i) (i + 1)) := hw2
  have hrr : r1 = nI (bsK tr + (i + 1 + slen rs)) := by rw [hw2, hend]
  subst hrr
  refine lv_istore hx hb d_MO_inside_8 hl (by decide) rfl (fun ls hl => ?_)
  have hl : lv_has ls 6 [(4, .int (nI (bsK tr + (i + 1 + slen rs)))), (3, .int 0), (0, .ref y), (1, .int (nI tr)), (2, .int (nI (bsK tr + i)))] := hl
  refine lv_iload_n hx hb d_MO_inside_10 rfl (lv_at hl 4 rfl) ?_
  refine lv_iconst (v := 1) hx hb d_MO_inside_11 (by decide) ?_
  refine lv_iadd hx hb d_MO_inside_12 ?_
  refine W.eq (congrArg (fun z => F0 m 13 ls (.int z :: [])) ((nI_1 _).trans (by rw [show slen (rs.take 0) = 0 from rfl]; rfl) : ((nI (bsK tr + i)) + 1) = nI (bsK tr + (i + 1 + slen (rs.take 0))))) ?_
  refine lv_istore hx hb d_MO_inside_13 hl (by decide) rfl (fun ls hl => ?_)
  have hl : lv_has ls 6 [(5, .int (nI (bsK tr + (i + 1 + slen (rs.take 0))))), (4, .int (nI (bsK tr + (i + 1 + slen rs)))), (3, .int 0), (0, .ref y), (1, .int (nI tr)), (2, .int (nI (bsK tr + i)))] := hl
  have hloop : ∀ (k9 : Nat) (t1 : Nat) (ls : Array Slot), rs.length - t1 = k9 → (t1 ≤ rs.length) → lv_has ls 6 [(5, .int (nI (bsK tr + (i + 1 + slen (rs.take t1))))), (4, .int (nI (bsK tr + (i + 1 + slen rs)))), (3, .int (nI t1)), (0, .ref y), (1, .int (nI tr)), (2, .int (nI (bsK tr + i)))] → W p l e (headSpec ws_MO_inside ({ frames := 2, cells := 0, slots := 0, locals := 43 })).room s m args below meth c s.heap [] 0 0 Q (F0 m 15 ls []) := by
    intro k9
    induction k9 using Nat.strongRecOn with
    | ind k9 ih =>
      intro t1 ls hk9 hj0 hl
      refine lv_iload hx hb d_MO_inside_15 (lv_at hl 0 rfl) ?_
      refine lv_iload hx hb d_MO_inside_17 (lv_at hl 1 rfl) ?_
      refine lv_icmp_ge (tgt := 37) hx hb d_MO_inside_19 rfl (fun h1 => ?_) (fun h1 => ?_)
      · have h1 : (i + 1 + slen rs) ≤ (i + 1 + slen (rs.take t1)) := by have := (nI_leI (by have := slen_le (rs := rs) t1; omega) (by have := slen_le (rs := rs) t1; omega)).mp h1; omega
        have ht : t1 = rs.length := Nat.le_antisymm hj0 (Nat.not_lt.mp (fun h => by have := hkid.lt_all h; omega))
        rw [ht] at hl
        have hl : lv_has ls 6 [(5, .int (nI (bsK tr + (i + 1 + slen (rs.take rs.length))))), (4, .int (nI (bsK tr + (i + 1 + slen rs)))), (3, .int (nI rs.length)), (0, .ref y), (1, .int (nI tr)), (2, .int (nI (bsK tr + i)))] := hl
        refine lv_iload_n hx hb d_MO_inside_37 rfl (lv_at hl 2 rfl) ?_
        rw [hQ]
        exact W.iret (v := (nI rs.length)) hx hb hr (fun t ht hW => ⟨(nI rs.length), rfl, rfl, ht⟩) (fun q h => absurd h List.not_mem_nil) d_MO_inside_38
      · have h1 : t1 < rs.length := slen_all (Nat.not_le.mp (fun h => h1 ((nI_leI (a := bsK tr + (i + 1 + slen rs)) (b := bsK tr + (i + 1 + slen (rs.take t1))) (by omega) (by have := slen_le (rs := rs) t1; omega)).mpr (by omega))))
        refine lv_iinc (k := 2) (v := ((nI t1) + Int32.ofInt 1)) hx hb d_MO_inside_22 hl rfl rfl (by decide) rfl (fun ls hl => ?_)
        have hl : lv_has ls 6 [(3, .int ((nI t1) + Int32.ofInt 1)), (5, .int (nI (bsK tr + (i + 1 + slen (rs.take t1))))), (4, .int (nI (bsK tr + (i + 1 + slen rs)))), (0, .ref y), (1, .int (nI tr)), (2, .int (nI (bsK tr + i)))] := hl
        rw [show nI t1 + Int32.ofInt 1 = nI (t1 + 1) from nI_1 _] at hl
        refine lv_aload_n hx hb d_MO_inside_25 rfl (lv_at hl 3 rfl) ?_
        refine lv_iload_n hx hb d_MO_inside_26 rfl (lv_at hl 4 rfl) ?_
        refine lv_iload hx hb d_MO_inside_27 (lv_at hl 1 rfl) ?_
        have hke := hkid.end_ h1
        have hPc : va_P (dC, dI) vwCl [(y, .inr (12, [.int lim, .int rm, .ref a_size, .ref a_kind, .ref a_level, .ref a_at, .ref a_len, .ref a_nameAt, .ref a_nameLen, .ref a_num, .ref a_pool, .int i_pooled, .ref a_draft, .int i_drafted, .int i_pos, .int i_code, .ref a_open, .int i_opened, .int i_heldAt, .int i_heldLen, .ref a_word, .int i_letters, .int i_literalKind, .int i_bad, .int i_given, .long i_literal, .ref a_list, .ref a_next, .ref a_result, .int i_listed, .int i_found, .int i_last, .int i_results, .int i_full, .int i_working, .ref a_twin, .int i_seen, .int i_wanted, .int i_got, .ref a_came, .ref a_closer])), (a_size, .inl (cI, 10, .inl sf)), (a_level, .inl (cI, 576, .inl vf))] _ := hP.sub (ws' := [(y, .inr (12, [.int lim, .int rm, .ref a_size, .ref a_kind, .ref a_level, .ref a_at, .ref a_len, .ref a_nameAt, .ref a_nameLen, .ref a_num, .ref a_pool, .int i_pooled, .ref a_draft, .int i_drafted, .int i_pos, .int i_code, .ref a_open, .int i_opened, .int i_heldAt, .int i_heldLen, .ref a_word, .int i_letters, .int i_literalKind, .int i_bad, .int i_given, .long i_literal, .ref a_list, .ref a_next, .ref a_result, .int i_listed, .int i_found, .int i_last, .int i_results, .int i_full, .int i_working, .ref a_twin, .int i_seen, .int i_wanted, .int i_got, .ref a_came, .ref a_closer])), (a_size, .inl (cI, 10, .inl sf)), (a_level, .inl (cI, 576, .inl vf))]) [0, 1, 2] rfl
        have hKc := hK.sub (tys' := [(cI, .int)]) [0] rfl
        refine vp_callSi (W.runV (As := [.int (nI tr), .int (nI (bsK tr + (i + 1 + slen (rs.take t1))))]) (rest := []) ⟨hx, hb, hml, hown, htb⟩ (q_MO_behind l dC dI y lim rm i_literal a_size a_kind a_level a_at a_len a_nameAt a_nameLen a_num a_pool a_draft a_open a_word a_list a_next a_result a_twin a_came a_closer i_pooled i_drafted i_pos i_code i_opened i_heldAt i_heldLen i_letters i_literalKind i_bad i_given i_listed i_found i_last i_results i_full i_working i_seen i_wanted i_got cI sf vf tr rows.length (lvR rows) (i + 1 + slen (rs.take t1)) htr hsf hn hlv hke.1) (cwV 2 htb (g_V (fun _ h => h) m_1338 m_1335 m_1337 m_1662 m_9) rfl rfl rfl (by decide +kernel) ⟨Nat.le_of_ble_eq_true rfl, Nat.le_of_ble_eq_true rfl⟩) ⟨fun a U g mk q => by obtain ⟨q0, qP, qK⟩ := q; exact ⟨q0, qP, va_K.moved (u := U) (U := U.calling g mk a) (Vm.Alike.refl U.vm) qK⟩, va_recv hKc hPc (ci := 12) rfl (q0 := 0) rfl, fun U hU hW => ⟨rfl, by rw [hU]; exact hPc, va_K.moved hW.alike hKc⟩⟩ rfl rfl hl.1 rfl (lv_room (Nat.le_of_ble_eq_true rfl)) d_MO_inside_29 ⟨Nat.le_of_ble_eq_true rfl, Nat.le_of_ble_eq_true rfl⟩) (fun r3 hw4 => ?_)
        have hw4 : r3 = nI (bsK tr + bhd (lvR rows) rows.length ((lvR rows) (i + 1 + slen (rs.take t1))) ((i + 1 + slen (rs.take t1)) + 1)) := hw4
        have hrr : r3 = nI (bsK tr + (i + 1 + slen (rs.take (t1 + 1)))) := by rw [hw4, hke.2]
        subst hrr
        refine lv_istore hx hb d_MO_inside_32 hl (by decide) rfl (fun ls hl => ?_)
        have hl : lv_has ls 6 [(5, .int (nI (bsK tr + (i + 1 + slen (rs.take (t1 + 1)))))), (3, .int (nI (t1 + 1))), (4, .int (nI (bsK tr + (i + 1 + slen rs)))), (0, .ref y), (1, .int (nI tr)), (2, .int (nI (bsK tr + i)))] := hl
        refine lv_goto (tgt := 15) hx hb d_MO_inside_34 rfl ?_
        exact ih (rs.length - (t1 + 1)) (by omega) (t1 + 1) ls rfl (h1) (lv_sub hl [0, 2, 1, 3, 4, 5] rfl)
  exact hloop _ 0 ls rfl (Nat.zero_le _) (lv_sub hl [0, 1, 2, 3, 4, 5] rfl)
set_option maxHeartbeats 1000000 in
set_option maxRecDepth 100000 in
/-- child(tree, row, k) -/
theorem q_MO_child (l : Launch) (dC : Nat → ClassId) (dI : Nat → Nat → Nat) (y : Nat) (lim : Int32) (rm : Int32) (i_literal : Int64) (a_size : Nat) (a_kind : Nat) (a_level : Nat) (a_at : Nat) (a_len : Nat) (a_nameAt : Nat) (a_nameLen : Nat) (a_num : Nat) (a_pool : Nat) (a_draft : Nat) (a_open : Nat) (a_word : Nat) (a_list : Nat) (a_next : Nat) (a_result : Nat) (a_twin : Nat) (a_came : Nat) (a_closer : Nat) (i_pooled : Int32) (i_drafted : Int32) (i_pos : Int32) (i_code : Int32) (i_opened : Int32) (i_heldAt : Int32) (i_heldLen : Int32) (i_letters : Int32) (i_literalKind : Int32) (i_bad : Int32) (i_given : Int32) (i_listed : Int32) (i_found : Int32) (i_last : Int32) (i_results : Int32) (i_full : Int32) (i_working : Int32) (i_seen : Int32) (i_wanted : Int32) (i_got : Int32) (cI : ClassId) (sf : Nat → Int32) (vf : Nat → Int32) (tr : Nat) (rows : List Row) (i : Nat) (lvl : Nat) (nm : List Nat) (k : Nat) (num : Int) (rt : List Nat) (ns : List (List Nat)) (rs : List (List Row)) (d : Nat) (kk : Nat) (htr : tr < 10) (hsf : sf tr = nI rows.length) (hn : bsK tr + rows.length ≤ 576) (hlv : ∀ j, j < rows.length → vf (bsK tr + j) = nI (lvR rows j) ∧ lvR rows j < 1000) (hsub : SUB rows i lvl nm ((k, 0, num, rt, []) :: kidRows k ns rs)) (hw : WR (d + 1) ((k, 0, num, rt, []) :: kidRows k ns rs)) (hnr : ns.length = rs.length) (hws : ∀ r ∈ rs, WR d r) (hkk : kk ≤ rs.length) : Met l y_MO_child ws_MO_child ({ frames := 2, cells := 0, slots := 0, locals := 43 }) (va_Pc [.ref y, .int (nI tr), .int (nI (bsK tr + i)), .int (nI kk)] (fun U => va_P (dC, dI) vwCl [(y, .inr (12, [.int lim, .int rm, .ref a_size, .ref a_kind, .ref a_level, .ref a_at, .ref a_len, .ref a_nameAt, .ref a_nameLen, .ref a_num, .ref a_pool, .int i_pooled, .ref a_draft, .int i_drafted, .int i_pos, .int i_code, .ref a_open, .int i_opened, .int i_heldAt, .int i_heldLen, .ref a_word, .int i_letters, .int i_literalKind, .int i_bad, .int i_given, .long i_literal, .ref a_list, .ref a_next, .ref a_result, .int i_listed, .int i_found, .int i_last, .int i_results, .int i_full, .int i_working, .ref a_twin, .int i_seen, .int i_wanted, .int i_got, .ref a_came, .ref a_closer])), (a_size, .inl (cI, 10, .inl sf)), (a_level, .inl (cI, 576, .inl vf))] U.heap ∧ va_K (dC, dI) vwCl [(cI, .int)] U)) (vp_Si (fun (r : Int32) => r = nI (bsK tr + (i + 1 + slen (rs.take kk))))) 0 0 (fun _ => False) := by
  refine Met.ofW (cc := c_MO_child) (maxL := 6) (ret := (some .int)) (by decide) rfl ?_
  intro p e s m args below meth c s₁ B hml hv
  obtain ⟨hargs, hP, hK⟩ := hv
  rw [show entryFrame m args 6 = entryFrame m ([.ref y, .int (nI tr), .int (nI (bsK tr + i)), .int (nI kk)]).toArray 6 by rw [hargs]]
  have hx := B.exec
  have hb := B.bytes
  have hr := B.returns
  have hts := atoms_spec (ws := ws_MO_child) B.pre
  have htb := fun w (h : w ∈ TBL) => hts w (List.mem_cons_of_mem _ h)
  have hown : s.vm.findClass R_MO = some m.cls := findClass_of_methodNamed B.named
  have hlocks := B.notSynchronized
  have hl := lv_entry ([.ref y, .int (nI tr), .int (nI (bsK tr + i)), .int (nI kk)]) (n := 6) (Nat.le_of_ble_eq_true rfl)
  rw [lg_entry_eq]
  generalize (lg_sl ([.ref y, .int (nI tr), .int (nI (bsK tr + i)), .int (nI kk)]) ++ List.replicate (6 - (lg_sl ([.ref y, .int (nI tr), .int (nI (bsK tr + i)), .int (nI kk)])).length) Slot.unset).toArray = ls at hl ⊢
  have hl : lv_has ls 6 [(0, .ref y), (1, .int (nI tr)), (2, .int (nI (bsK tr + i))), (3, .int (nI kk))] := hl
  refine zz_nQ (fun Q hQ => ?_)
  have hbs := bsK_le htr
  have hkid := hsub.kids hnr hws
  have hend := hsub.end_ hw hnr
  have hle := hsub.le
  have hle2 : i + (1 + slen rs) ≤ rows.length := by rw [List.length_cons, len_kids k ns rs hnr] at hle; omega
  have hrl : rs.length ≤ slen rs := kid_len hws
  refine lv_iload_n hx hb d_MO_child_0 rfl (lv_at hl 2 rfl) ?_
  refine lv_iconst (v := 1) hx hb d_MO_child_1 (by decide) ?_
  refine lv_iadd hx hb d_MO_child_2 ?_
  refine W.eq (congrArg (fun z => F0 m 3 ls (.int z :: [])) ((nI_1 _).trans (by rw [show slen (rs.take 0) = 0 from rfl]; rfl) : ((nI (bsK tr + i)) + 1) = nI (bsK tr + (i + 1 + slen (rs.take 0))))) ?_
  refine lv_istore hx hb d_MO_child_3 hl (by decide) rfl (fun ls hl => ?_)
  have hl : lv_has ls 6 [(4, .int (nI (bsK tr + (i + 1 + slen (rs.take 0))))), (0, .ref y), (1, .int (nI tr)), (2, .int (nI (bsK tr + i))), (3, .int (nI kk))] := hl
  refine lv_iconst (v := 0) hx hb d_MO_child_5 (by decide) ?_
  refine lv_istore hx hb d_MO_child_6 hl (by decide) rfl (fun ls hl => ?_)
  have hl : lv_has ls 6 [(5, .int 0), (4, .int (nI (bsK tr + (i + 1 + slen (rs.take 0))))), (0, .ref y), (1, .int (nI tr)), (2, .int (nI (bsK tr + i))), (3, .int (nI kk))] := hl
  have hloop : ∀ (k9 : Nat) (t1 : Nat) (ls : Array Slot), kk - t1 = k9 → (t1 ≤ kk) → lv_has ls 6 [(4, .int (nI (bsK tr + (i + 1 + slen (rs.take t1))))), (5, .int (nI t1)), (0, .ref y), (1, .int (nI tr)), (2, .int (nI (bsK tr + i))), (3, .int (nI kk))] → W p l e (headSpec ws_MO_child ({ frames := 2, cells := 0, slots := 0, locals := 43 })).room s m args below meth c s.heap [] 0 0 Q (F0 m 8 ls []) := by
    intro k9
    induction k9 using Nat.strongRecOn with
    | ind k9 ih =>
      intro t1 ls hk9 hj0 hl
      refine lv_iload hx hb d_MO_child_8 (lv_at hl 1 rfl) ?_
      refine lv_iload_n hx hb d_MO_child_10 rfl (lv_at hl 5 rfl) ?_
      refine lv_icmp_ge (tgt := 29) hx hb d_MO_child_11 rfl (fun h1 => ?_) (fun h1 => ?_)
      · have h1 : kk ≤ t1 := (nI_leI (by omega) (by omega)).mp h1
        have ht : t1 = kk := by omega
        rw [ht] at hl
        have hl : lv_has ls 6 [(4, .int (nI (bsK tr + (i + 1 + slen (rs.take kk))))), (5, .int (nI kk)), (0, .ref y), (1, .int (nI tr)), (2, .int (nI (bsK tr + i))), (3, .int (nI kk))] := hl
        refine lv_iload hx hb d_MO_child_29 (lv_at hl 0 rfl) ?_
        rw [hQ]
        exact W.iret (v := (nI (bsK tr + (i + 1 + slen (rs.take kk))))) hx hb hr (fun t ht hW => ⟨(nI (bsK tr + (i + 1 + slen (rs.take kk)))), rfl, rfl, ht⟩) (fun q h => absurd h List.not_mem_nil) d_MO_child_31
      · have h0 : t1 < kk := Nat.not_le.mp (fun h => h1 ((nI_leI (by omega) (by omega)).mpr h))
        have h1 : t1 < rs.length := by omega
        refine lv_aload_n hx hb d_MO_child_14 rfl (lv_at hl 2 rfl) ?_
        refine lv_iload_n hx hb d_MO_child_15 rfl (lv_at hl 3 rfl) ?_
        refine lv_iload hx hb d_MO_child_16 (lv_at hl 0 rfl) ?_
        have hke := hkid.end_ h1
        have hPc : va_P (dC, dI) vwCl [(y, .inr (12, [.int lim, .int rm, .ref a_size, .ref a_kind, .ref a_level, .ref a_at, .ref a_len, .ref a_nameAt, .ref a_nameLen, .ref a_num, .ref a_pool, .int i_pooled, .ref a_draft, .int i_drafted, .int i_pos, .int i_code, .ref a_open, .int i_opened, .int i_heldAt, .int i_heldLen, .ref a_word, .int i_letters, .int i_literalKind, .int i_bad, .int i_given, .long i_literal, .ref a_list, .ref a_next, .ref a_result, .int i_listed, .int i_found, .int i_last, .int i_results, .int i_full, .int i_working, .ref a_twin, .int i_seen, .int i_wanted, .int i_got, .ref a_came, .ref a_closer])), (a_size, .inl (cI, 10, .inl sf)), (a_level, .inl (cI, 576, .inl vf))] _ := hP.sub (ws' := [(y, .inr (12, [.int lim, .int rm, .ref a_size, .ref a_kind, .ref a_level, .ref a_at, .ref a_len, .ref a_nameAt, .ref a_nameLen, .ref a_num, .ref a_pool, .int i_pooled, .ref a_draft, .int i_drafted, .int i_pos, .int i_code, .ref a_open, .int i_opened, .int i_heldAt, .int i_heldLen, .ref a_word, .int i_letters, .int i_literalKind, .int i_bad, .int i_given, .long i_literal, .ref a_list, .ref a_next, .ref a_result, .int i_listed, .int i_found, .int i_last, .int i_results, .int i_full, .int i_working, .ref a_twin, .int i_seen, .int i_wanted, .int i_got, .ref a_came, .ref a_closer])), (a_size, .inl (cI, 10, .inl sf)), (a_level, .inl (cI, 576, .inl vf))]) [0, 1, 2] rfl
        have hKc := hK.sub (tys' := [(cI, .int)]) [0] rfl
        refine vp_callSi (W.runV (As := [.int (nI tr), .int (nI (bsK tr + (i + 1 + slen (rs.take t1))))]) (rest := []) ⟨hx, hb, hml, hown, htb⟩ (q_MO_behind l dC dI y lim rm i_literal a_size a_kind a_level a_at a_len a_nameAt a_nameLen a_num a_pool a_draft a_open a_word a_list a_next a_result a_twin a_came a_closer i_pooled i_drafted i_pos i_code i_opened i_heldAt i_heldLen i_letters i_literalKind i_bad i_given i_listed i_found i_last i_results i_full i_working i_seen i_wanted i_got cI sf vf tr rows.length (lvR rows) (i + 1 + slen (rs.take t1)) htr hsf hn hlv hke.1) (cwV 2 htb (g_V (fun _ h => h) m_1338 m_1335 m_1337 m_1662 m_9) rfl rfl rfl (by decide +kernel) ⟨Nat.le_of_ble_eq_true rfl, Nat.le_of_ble_eq_true rfl⟩) ⟨fun a U g mk q => by obtain ⟨q0, qP, qK⟩ := q; exact ⟨q0, qP, va_K.moved (u := U) (U := U.calling g mk a) (Vm.Alike.refl U.vm) qK⟩, va_recv hKc hPc (ci := 12) rfl (q0 := 0) rfl, fun U hU hW => ⟨rfl, by rw [hU]; exact hPc, va_K.moved hW.alike hKc⟩⟩ rfl rfl hl.1 rfl (lv_room (Nat.le_of_ble_eq_true rfl)) d_MO_child_18 ⟨Nat.le_of_ble_eq_true rfl, Nat.le_of_ble_eq_true rfl⟩) (fun r1 hw2 => ?_)
        have hw2 : r1 = nI (bsK tr + bhd (lvR rows) rows.length ((lvR rows) (i + 1 + slen (rs.take t1))) ((i + 1 + slen (rs.take t1)) + 1)) := hw2
        have hrr : r1 = nI (bsK tr + (i + 1 + slen (rs.take (t1 + 1)))) := by rw [hw2, hke.2]
        subst hrr
        refine lv_istore hx hb d_MO_child_21 hl (by decide) rfl (fun ls hl => ?_)
        have hl : lv_has ls 6 [(4, .int (nI (bsK tr + (i + 1 + slen (rs.take (t1 + 1)))))), (5, .int (nI t1)), (0, .ref y), (1, .int (nI tr)), (2, .int (nI (bsK tr + i))), (3, .int (nI kk))] := hl
        refine lv_iinc (k := 1) (v := ((nI t1) + Int32.ofInt 1)) hx hb d_MO_child_23 hl rfl rfl (by decide) rfl (fun ls hl => ?_)
        have hl : lv_has ls 6 [(5, .int ((nI t1) + Int32.ofInt 1)), (4, .int (nI (bsK tr + (i + 1 + slen (rs.take (t1 + 1)))))), (0, .ref y), (1, .int (nI tr)), (2, .int (nI (bsK tr + i))), (3, .int (nI kk))] := hl
        rw [show nI t1 + Int32.ofInt 1 = nI (t1 + 1) from nI_1 _] at hl
        refine lv_goto (tgt := 8) hx hb d_MO_child_26 rfl ?_
        exact ih (kk - (t1 + 1)) (by omega) (t1 + 1) ls rfl (h0) (lv_sub hl [1, 0, 2, 3, 4, 5] rfl)
  exact hloop _ 0 ls rfl (Nat.zero_le _) (lv_sub hl [1, 0, 2, 3, 4, 5] rfl)
set_option maxHeartbeats 1000000 in
set_option maxRecDepth 100000 in
/-- element(tree, row, k) -/
theorem q_MO_element (l : Launch) (dC : Nat → ClassId) (dI : Nat → Nat → Nat) (y : Nat) (lim : Int32) (rm : Int32) (i_literal : Int64) (a_size : Nat) (a_kind : Nat) (a_level : Nat) (a_at : Nat) (a_len : Nat) (a_nameAt : Nat) (a_nameLen : Nat) (a_num : Nat) (a_pool : Nat) (a_draft : Nat) (a_open : Nat) (a_word : Nat) (a_list : Nat) (a_next : Nat) (a_result : Nat) (a_twin : Nat) (a_came : Nat) (a_closer : Nat) (i_pooled : Int32) (i_drafted : Int32) (i_pos : Int32) (i_code : Int32) (i_opened : Int32) (i_heldAt : Int32) (i_heldLen : Int32) (i_letters : Int32) (i_literalKind : Int32) (i_bad : Int32) (i_given : Int32) (i_listed : Int32) (i_found : Int32) (i_last : Int32) (i_results : Int32) (i_full : Int32) (i_working : Int32) (i_seen : Int32) (i_wanted : Int32) (i_got : Int32) (cI : ClassId) (sf : Nat → Int32) (vf : Nat → Int32) (tr : Nat) (rows : List Row) (i : Nat) (lvl : Nat) (nm : List Nat) (k : Nat) (num : Int) (rt : List Nat) (ns : List (List Nat)) (rs : List (List Row)) (d : Nat) (kf : Nat → Int32) (v : Int32) (htr : tr < 10) (hsf : sf tr = nI rows.length) (hn : bsK tr + rows.length ≤ 576) (hlv : ∀ j, j < rows.length → vf (bsK tr + j) = nI (lvR rows j) ∧ lvR rows j < 1000) (hsub : SUB rows i lvl nm ((k, 0, num, rt, []) :: kidRows k ns rs)) (hw : WR (d + 1) ((k, 0, num, rt, []) :: kidRows k ns rs)) (hnr : ns.length = rs.length) (hws : ∀ r ∈ rs, WR d r) (hkf : kf (bsK tr + i) = nI k) (hk6 : k ≤ 6) : Met l y_MO_element ws_MO_element ({ frames := 3, cells := 0, slots := 0, locals := 68 }) (va_Pc [.ref y, .int (nI tr), .int (nI (bsK tr + i)), .int v] (fun U => va_P (dC, dI) vwCl [(y, .inr (12, [.int lim, .int rm, .ref a_size, .ref a_kind, .ref a_level, .ref a_at, .ref a_len, .ref a_nameAt, .ref a_nameLen, .ref a_num, .ref a_pool, .int i_pooled, .ref a_draft, .int i_drafted, .int i_pos, .int i_code, .ref a_open, .int i_opened, .int i_heldAt, .int i_heldLen, .ref a_word, .int i_letters, .int i_literalKind, .int i_bad, .int i_given, .long i_literal, .ref a_list, .ref a_next, .ref a_result, .int i_listed, .int i_found, .int i_last, .int i_results, .int i_full, .int i_working, .ref a_twin, .int i_seen, .int i_wanted, .int i_got, .ref a_came, .ref a_closer])), (a_size, .inl (cI, 10, .inl sf)), (a_level, .inl (cI, 576, .inl vf)), (a_kind, .inl (cI, 576, .inl kf))] U.heap ∧ va_K (dC, dI) vwCl [(cI, .int)] U)) (vp_Si (fun (r : Int32) => r = if k = 5 ∧ ¬ v < 0 ∧ v.toNatClampNeg < rs.length then nI (bsK tr + (i + 1 + slen (rs.take v.toNatClampNeg))) else -1)) 0 0 (fun _ => False) := by
  refine Met.ofW (cc := c_MO_element) (maxL := 4) (ret := (some .int)) (by decide) rfl ?_
  intro p e s m args below meth c s₁ B hml hv
  obtain ⟨rfl, hP, hK⟩ := hv
  have hx := B.exec
  have hb := B.bytes
  have hr := B.returns
  have hts := atoms_spec (ws := ws_MO_element) B.pre
  have htb := fun w (h : w ∈ TBL) => hts w (List.mem_cons_of_mem _ h)
  have hown : s.vm.findClass R_MO = some m.cls := findClass_of_methodNamed B.named
  have hlocks := B.notSynchronized
  have hl := lv_entry ([.ref y, .int (nI tr), .int (nI (bsK tr + i)), .int v]) (n := 4) (Nat.le_of_ble_eq_true rfl)
  rw [lg_entry_eq]
  generalize (lg_sl ([.ref y, .int (nI tr), .int (nI (bsK tr + i)), .int v]) ++ List.replicate (4 - (lg_sl ([.ref y, .int (nI tr), .int (nI (bsK tr + i)), .int v])).length) Slot.unset).toArray = ls at hl ⊢
  have hl : lv_has ls 4 [(0, .ref y), (1, .int (nI tr)), (2, .int (nI (bsK tr + i))), (3, .int v)] := hl
  have hbs := bsK_le htr
  have hkid := hsub.kids hnr hws
  have hend := hsub.end_ hw hnr
  have hle := hsub.le
  have hle2 : i + (1 + slen rs) ≤ rows.length := by rw [List.length_cons, len_kids k ns rs hnr] at hle; omega
  have hrl : rs.length ≤ slen rs := kid_len hws
  refine lv_iload_n hx hb d_MO_element_0 rfl (lv_at hl 2 rfl) ?_
  refine lv_if_lt (tgt := 28) hx hb d_MO_element_1 rfl (fun h9 => absurd h9 (nI_pos (by omega))) (fun _ => ?_)
  refine lv_aload_n hx hb d_MO_element_4 rfl (lv_at hl 0 rfl) ?_
  refine va_get (D := (dC, dI)) (ci := 12) (v := .ref a_kind) (C := R_MO) (T := T_MO) (N := 41) hx hb htb in_MO hown hK hP 0 rfl rfl 3 (by decide) (htb _ m_1142) (fun _ h9 => h9) rfl d_MO_element_5 ?_
  refine lv_iload_n hx hb d_MO_element_8 rfl (lv_at hl 2 rfl) ?_
  refine va_iald hx hb hK hP 3 0 rfl rfl (vp_in_nI (by omega) (by omega)) d_MO_element_9 ?_
  refine W.eq (congrArg (fun z => F0 m 10 ls (.int z :: [])) (by rw [nI_clamp (by omega)]; exact hkf : (kf (nI (bsK tr + i)).toNatClampNeg) = nI k)) ?_
  refine lv_iconst (v := 5) hx hb d_MO_element_10 (by decide) ?_
  refine lv_icmp_ne (tgt := 28) hx hb d_MO_element_11 rfl (fun h1 => ?_) (fun h1 => ?_)
  · have h1 : ¬ k = 5 := fun h => h1 (by rw [h]; rfl)
    refine lv_iconst (v := (-1)) hx hb d_MO_element_28 (by decide) ?_
    exact W.iret (v := (-1)) hx hb hr (fun t ht hW => ⟨(-1), rfl, by rw [if_neg (fun h => h1 h.1)], ht⟩) (fun q h => absurd h List.not_mem_nil) d_MO_element_29
  · have h1 : k = 5 := (nI_eq (by omega) (by decide)).mp h1
    refine lv_iload_n hx hb d_MO_element_14 rfl (lv_at hl 3 rfl) ?_
    refine lv_if_lt (tgt := 28) hx hb d_MO_element_15 rfl (fun h2 => ?_) (fun h2 => ?_)
    · refine lv_iconst (v := (-1)) hx hb d_MO_element_28 (by decide) ?_
      exact W.iret (v := (-1)) hx hb hr (fun t ht hW => ⟨(-1), rfl, by rw [if_neg (fun h => h.2.1 h2)], ht⟩) (fun q h => absurd h List.not_mem_nil) d_MO_element_29
    · refine lv_iload_n hx hb d_MO_element_18 rfl (lv_at hl 3 rfl) ?_
      refine lv_aload_n hx hb d_MO_element_19 rfl (lv_at hl 0 rfl) ?_
      refine lv_iload_n hx hb d_MO_element_20 rfl (lv_at hl 1 rfl) ?_
      refine lv_iload_n hx hb d_MO_element_21 rfl (lv_at hl 2 rfl) ?_
      have hPc : va_P (dC, dI) vwCl [(y, .inr (12, [.int lim, .int rm, .ref a_size, .ref a_kind, .ref a_level, .ref a_at, .ref a_len, .ref a_nameAt, .ref a_nameLen, .ref a_num, .ref a_pool, .int i_pooled, .ref a_draft, .int i_drafted, .int i_pos, .int i_code, .ref a_open, .int i_opened, .int i_heldAt, .int i_heldLen, .ref a_word, .int i_letters, .int i_literalKind, .int i_bad, .int i_given, .long i_literal, .ref a_list, .ref a_next, .ref a_result, .int i_listed, .int i_found, .int i_last, .int i_results, .int i_full, .int i_working, .ref a_twin, .int i_seen, .int i_wanted, .int i_got, .ref a_came, .ref a_closer])), (a_size, .inl (cI, 10, .inl sf)), (a_level, .inl (cI, 576, .inl vf))] _ := hP.sub (ws' := [(y, .inr (12, [.int lim, .int rm, .ref a_size, .ref a_kind, .ref a_level, .ref a_at, .ref a_len, .ref a_nameAt, .ref a_nameLen, .ref a_num, .ref a_pool, .int i_pooled, .ref a_draft, .int i_drafted, .int i_pos, .int i_code, .ref a_open, .int i_opened, .int i_heldAt, .int i_heldLen, .ref a_word, .int i_letters, .int i_literalKind, .int i_bad, .int i_given, .long i_literal, .ref a_list, .ref a_next, .ref a_result, .int i_listed, .int i_found, .int i_last, .int i_results, .int i_full, .int i_working, .ref a_twin, .int i_seen, .int i_wanted, .int i_got, .ref a_came, .ref a_closer])), (a_size, .inl (cI, 10, .inl sf)), (a_level, .inl (cI, 576, .inl vf))]) [0, 1, 2] rfl
      have hKc := hK.sub (tys' := [(cI, .int)]) [0] rfl
      refine vp_callSi (W.runV (As := [.int (nI tr), .int (nI (bsK tr + i))]) (rest := [.int v]) ⟨hx, hb, hml, hown, htb⟩ (q_MO_inside l dC dI y lim rm i_literal a_size a_kind a_level a_at a_len a_nameAt a_nameLen a_num a_pool a_draft a_open a_word a_list a_next a_result a_twin a_came a_closer i_pooled i_drafted i_pos i_code i_opened i_heldAt i_heldLen i_letters i_literalKind i_bad i_given i_listed i_found i_last i_results i_full i_working i_seen i_wanted i_got cI sf vf tr rows i lvl nm k num rt ns rs d htr hsf hn hlv hsub hw hnr hws) (cwV 2 htb (g_V (fun _ h => h) m_1433 m_1430 m_1432 m_1681 m_9) rfl rfl rfl (by decide +kernel) ⟨Nat.le_of_ble_eq_true rfl, Nat.le_of_ble_eq_true rfl⟩) ⟨fun a U g mk q => by obtain ⟨q0, qP, qK⟩ := q; exact ⟨q0, qP, va_K.moved (u := U) (U := U.calling g mk a) (Vm.Alike.refl U.vm) qK⟩, va_recv hKc hPc (ci := 12) rfl (q0 := 0) rfl, fun U hU hW => ⟨rfl, by rw [hU]; exact hPc, va_K.moved hW.alike hKc⟩⟩ rfl rfl hl.1 rfl (lv_room (Nat.le_of_ble_eq_true rfl)) d_MO_element_22 ⟨Nat.le_of_ble_eq_true rfl, Nat.le_of_ble_eq_true rfl⟩) (fun r1 hw2 => ?_)
      have hw2 : r1 = nI rs.length := hw2
      obtain rfl := hw2
      refine lv_icmp_lt (tgt := 30) hx hb d_MO_element_25 rfl (fun h3 => ?_) (fun h3 => ?_)
      · have h4 := lt_of_nI h2 (Int32.not_le.mpr h3) (by omega)
        refine lv_aload_n hx hb d_MO_element_30 rfl (lv_at hl 0 rfl) ?_
        refine lv_iload_n hx hb d_MO_element_31 rfl (lv_at hl 1 rfl) ?_
        refine lv_iload_n hx hb d_MO_element_32 rfl (lv_at hl 2 rfl) ?_
        refine lv_iload_n hx hb d_MO_element_33 rfl (lv_at hl 3 rfl) ?_
        refine W.eq (congrArg (fun z99 => F0 m 34 ls (.int z99 :: [.int (nI (bsK tr + i)), .int (nI tr), .ref y])) (h4.2 : v = nI v.toNatClampNeg)) ?_
        have hPc : va_P (dC, dI) vwCl [(y, .inr (12, [.int lim, .int rm, .ref a_size, .ref a_kind, .ref a_level, .ref a_at, .ref a_len, .ref a_nameAt, .ref a_nameLen, .ref a_num, .ref a_pool, .int i_pooled, .ref a_draft, .int i_drafted, .int i_pos, .int i_code, .ref a_open, .int i_opened, .int i_heldAt, .int i_heldLen, .ref a_word, .int i_letters, .int i_literalKind, .int i_bad, .int i_given, .long i_literal, .ref a_list, .ref a_next, .ref a_result, .int i_listed, .int i_found, .int i_last, .int i_results, .int i_full, .int i_working, .ref a_twin, .int i_seen, .int i_wanted, .int i_got, .ref a_came, .ref a_closer])), (a_size, .inl (cI, 10, .inl sf)), (a_level, .inl (cI, 576, .inl vf))] _ := hP.sub (ws' := [(y, .inr (12, [.int lim, .int rm, .ref a_size, .ref a_kind, .ref a_level, .ref a_at, .ref a_len, .ref a_nameAt, .ref a_nameLen, .ref a_num, .ref a_pool, .int i_pooled, .ref a_draft, .int i_drafted, .int i_pos, .int i_code, .ref a_open, .int i_opened, .int i_heldAt, .int i_heldLen, .ref a_word, .int i_letters, .int i_literalKind, .int i_bad, .int i_given, .long i_literal, .ref a_list, .ref a_next, .ref a_result, .int i_listed, .int i_found, .int i_last, .int i_results, .int i_full, .int i_working, .ref a_twin, .int i_seen, .int i_wanted, .int i_got, .ref a_came, .ref a_closer])), (a_size, .inl (cI, 10, .inl sf)), (a_level, .inl (cI, 576, .inl vf))]) [0, 1, 2] rfl
        have hKc := hK.sub (tys' := [(cI, .int)]) [0] rfl
        refine vp_callSi (W.runV (As := [.int (nI tr), .int (nI (bsK tr + i)), .int (nI v.toNatClampNeg)]) (rest := []) ⟨hx, hb, hml, hown, htb⟩ (q_MO_child l dC dI y lim rm i_literal a_size a_kind a_level a_at a_len a_nameAt a_nameLen a_num a_pool a_draft a_open a_word a_list a_next a_result a_twin a_came a_closer i_pooled i_drafted i_pos i_code i_opened i_heldAt i_heldLen i_letters i_literalKind i_bad i_given i_listed i_found i_last i_results i_full i_working i_seen i_wanted i_got cI sf vf tr rows i lvl nm k num rt ns rs d v.toNatClampNeg htr hsf hn hlv hsub hw hnr hws (by omega)) (cwV 3 htb (g_V (fun _ h => h) m_1437 m_1434 m_1436 m_1682 m_9) rfl rfl rfl (by decide +kernel) ⟨Nat.le_of_ble_eq_true rfl, Nat.le_of_ble_eq_true rfl⟩) ⟨fun a U g mk q => by obtain ⟨q0, qP, qK⟩ := q; exact ⟨q0, qP, va_K.moved (u := U) (U := U.calling g mk a) (Vm.Alike.refl U.vm) qK⟩, va_recv hKc hPc (ci := 12) rfl (q0 := 0) rfl, fun U hU hW => ⟨rfl, by rw [hU]; exact hPc, va_K.moved hW.alike hKc⟩⟩ rfl rfl hl.1 rfl (lv_room (Nat.le_of_ble_eq_true rfl)) d_MO_element_34 ⟨Nat.le_of_ble_eq_true rfl, Nat.le_of_ble_eq_true rfl⟩) (fun r3 hw4 => ?_)
        have hw4 : r3 = nI (bsK tr + (i + 1 + slen (rs.take v.toNatClampNeg))) := hw4
        exact W.iret (v := r3) hx hb hr (fun t ht hW => ⟨r3, rfl, by rw [if_pos ⟨h1, h2, h4.1⟩]; exact hw4, ht⟩) (fun q h => absurd h List.not_mem_nil) d_MO_element_37
      · have h3 : ¬ (v.toNatClampNeg < rs.length) := ge_of_nI h2 h3 (by omega)
        refine lv_iconst (v := (-1)) hx hb d_MO_element_28 (by decide) ?_
        exact W.iret (v := (-1)) hx hb hr (fun t ht hW => ⟨(-1), rfl, by rw [if_neg (fun h => h3 h.2.2)], ht⟩) (fun q h => absurd h List.not_mem_nil) d_MO_element_29
