set_option maxHeartbeats 1000000 in
set_option maxRecDepth 100000 in
/-- member(tree, row) by places -/
theorem q_MO_memX (l : Launch) (dC : Nat → ClassId) (dI : Nat → Nat → Nat) (y : Nat) (lim : Int32) (rm : Int32) (a_size : Nat) (a_kind : Nat) (a_level : Nat) (a_at : Nat) (a_len : Nat) (a_nameAt : Nat) (a_nameLen : Nat) (a_num : Nat) (a_pool : Nat) (a_draft : Nat) (a_open : Nat) (a_word : Nat) (a_list : Nat) (a_next : Nat) (a_result : Nat) (a_twin : Nat) (a_came : Nat) (a_closer : Nat) (i_pooled : Int32) (i_code : Int32) (i_opened : Int32) (i_heldAt : Int32) (i_heldLen : Int32) (i_listed : Int32) (i_results : Int32) (i_working : Int32) (i_seen : Int32) (i_wanted : Int32) (i_got : Int32) (cC : ClassId) (cI : ClassId) (cL : ClassId) (f : Nat → Int32) (L : List Nat) (a : Nat) (li : Int64) (tr : Nat) (lt : Int32) (bd : Int32) (gi : Int32) (lk : Int32) (fo : Int32) (fu : Int32) (sf : Nat → Int32) (kf : Nat → Int32) (vf : Nat → Int32) (af : Nat → Int32) (lf : Nat → Int32) (xf : Nat → Int32) (nf : Nat → Int32) (uf : Nat → Int64) (pf : Nat → Int32) (pn : Nat) (w0 : List Row) (wf : Nat → Int32) (s1 : List Nat) (xo : Option Plc) (htr : tr < 3) (hsf : sf tr = nI w0.length) (hw32 : w0.length ≤ 32) (hTR : TR (bsK tr) w0 kf vf af lf xf nf uf pf pn) (hWR : WR 12 w0) (hpn : pn ≤ 8400) (hxo : ∀ x8, xo = some x8 → LOK w0 x8) (hwd : ∀ x8, xo = some x8 → lt = nI s1.length ∧ WRD s1 wf ∧ s1.length ≤ 160 ∧ ∀ c ∈ s1, c < 128) : Met l y_MO_member ws_MO_member ({ frames := 2, cells := 0, slots := 0, locals := 43 }) (va_Pc [.ref y, .int (nI tr), .int (rwI (bsK tr) xo)] (fun U => va_P (dC, dI) vwCl [(y, .inr (12, [.int lim, .int rm, .ref a_size, .ref a_kind, .ref a_level, .ref a_at, .ref a_len, .ref a_nameAt, .ref a_nameLen, .ref a_num, .ref a_pool, .int i_pooled, .ref a_draft, .int (nI L.length), .int (nI a), .int i_code, .ref a_open, .int i_opened, .int i_heldAt, .int i_heldLen, .ref a_word, .int lt, .int lk, .int bd, .int gi, .long li, .ref a_list, .ref a_next, .ref a_result, .int i_listed, .int fo, .int (nI tr), .int i_results, .int fu, .int i_working, .ref a_twin, .int i_seen, .int i_wanted, .int i_got, .ref a_came, .ref a_closer])), (a_size, .inl (cI, 10, .inl sf)), (a_kind, .inl (cI, 576, .inl kf)), (a_level, .inl (cI, 576, .inl vf)), (a_nameAt, .inl (cI, 576, .inl xf)), (a_nameLen, .inl (cI, 576, .inl nf)), (a_pool, .inl (cC, 8400, .inl pf)), (a_word, .inl (cC, 160, .inl wf))] U.heap ∧ va_K (dC, dI) vwCl [(cI, .int), (cC, .char)] U)) (vp_Si (fun (r : Int32) => r = rwI (bsK tr) (xo.bind (fun x8 => (mpl x8.2 s1).map (kidL x8))))) 0 0 (fun _ => False) := by
  refine Met.ofW (cc := c_MO_member) (maxL := 5) (ret := (some .int)) (by decide) rfl ?_
  intro p e s m args below meth c s₁ B hml hv
  obtain ⟨hargs, hP, hK⟩ := hv
  rw [show entryFrame m args 5 = entryFrame m ([.ref y, .int (nI tr), .int (rwI (bsK tr) xo)]).toArray 5 by rw [hargs]]
  have hx := B.exec
  have hb := B.bytes
  have hr := B.returns
  have hts := atoms_spec (ws := ws_MO_member) B.pre
  have htb := fun w (h : w ∈ TBL) => hts w (List.mem_cons_of_mem _ h)
  have hown : s.vm.findClass R_MO = some m.cls := findClass_of_methodNamed B.named
  have hlocks := B.notSynchronized
  have hl := lv_entry ([.ref y, .int (nI tr), .int (rwI (bsK tr) xo)]) (n := 5) (Nat.le_of_ble_eq_true rfl)
  rw [lg_entry_eq]
  generalize (lg_sl ([.ref y, .int (nI tr), .int (rwI (bsK tr) xo)]) ++ List.replicate (5 - (lg_sl ([.ref y, .int (nI tr), .int (rwI (bsK tr) xo)])).length) Slot.unset).toArray = ls at hl ⊢
  replace hl : lv_has ls 5 [(0, .ref y), (1, .int (nI tr)), (2, .int (rwI (bsK tr) xo))] := hl
  refine zz_nQ (fun Q hQ => ?_)
  have hbt : bsK tr = 32 * tr := bsK_small (by omega)
  have hlv : ∀ j, j < w0.length → vf (bsK tr + j) = nI (lvR w0 j) ∧ lvR w0 j < 1000 := fun j hj => hTR.lvs hWR (by decide) hj
  rcases xo with _ | x
  · refine lv_iload_n hx hb d_MO_member_0 rfl (lv_at hl 2 rfl) ?_
    refine W.eq (g2 := F0 m 1 ls [.int (-1)]) rfl ?_
    refine lv_if_lt (tgt := 15) hx hb d_MO_member_1 rfl (fun _ => ?_) (fun h9 => absurd (by decide) h9)
    refine lv_iconst (v := (-1)) hx hb d_MO_member_15 (by decide) ?_
    rw [hQ]
    exact W.iret (v := (-1)) hx hb hr (fun t ht hW => ⟨(-1), rfl, rfl, ht⟩) (fun q h => absurd h List.not_mem_nil) d_MO_member_16
  · obtain ⟨l1, nm1, e1, hs1, hw1, he1⟩ := hxo x rfl
    have hle1 := hs1.le
    have hpo1 := wr_pos hw1
    obtain ⟨k1, num1, rt1, ee1, hk1x, hk5, hk6, hws⟩ := wr_parts hw1
    have hs2 : SUB w0 x.1 l1 nm1 ((k1, 0, num1, rt1, []) :: kidRows k1 (ksN x.2) (ksR x.2)) := ee1 ▸ hs1
    have hw2 : WR (e1 + 1) ((k1, 0, num1, rt1, []) :: kidRows k1 (ksN x.2) (ksR x.2)) := ee1 ▸ hw1
    have hkid := hs2.kids (ksN_len x.2) hws
    have hend := hs2.end_ hw2 (ksN_len x.2)
    have hkf := (hTR.at hs2.row).2.1
    have hrl : (ksR x.2).length ≤ slen (ksR x.2) := kid_len hws
    have hLx : x.2.length = 1 + slen (ksR x.2) := by have h9 := congrArg List.length ee1; rw [List.length_cons, len_kids k1 _ _ (ksN_len x.2)] at h9; omega
    obtain ⟨hlt, hwz, hs160, hsc⟩ := hwd x rfl
    subst hlt
    refine lv_iload_n hx hb d_MO_member_0 rfl (lv_at hl 2 rfl) ?_
    refine W.eq (g2 := F0 m 1 ls [.int (nI (bsK tr + x.1))]) rfl ?_
    refine lv_if_lt (tgt := 15) hx hb d_MO_member_1 rfl (fun h9 => absurd h9 (nI_pos (by omega))) (fun _ => ?_)
    refine lv_aload_n hx hb d_MO_member_4 rfl (lv_at hl 0 rfl) ?_
    refine va_get (D := (dC, dI)) (ci := 12) (v := .ref a_kind) (C := R_MO) (T := T_MO) (N := 41) hx hb htb in_MO hown hK hP 0 rfl rfl 3 (by decide) (htb _ m_1142) (fun _ h9 => h9) rfl d_MO_member_5 ?_
    refine lv_iload_n hx hb d_MO_member_8 rfl (lv_at hl 2 rfl) ?_
    refine W.eq (g2 := F0 m 9 ls [.int (nI (bsK tr + x.1)), .ref a_kind]) rfl ?_
    refine va_iald hx hb hK hP 2 0 rfl rfl (vp_in_nI (by omega) (by omega)) d_MO_member_9 ?_
    refine W.eq (congrArg (fun z => F0 m 10 ls (.int z :: [])) (by rw [nI_clamp (by omega)]; exact hkf : (kf (nI (bsK tr + x.1)).toNatClampNeg) = nI k1)) ?_
    refine lv_bipush (v := 6) hx hb d_MO_member_10 (by decide) ?_
    refine lv_icmp_eq (tgt := 17) hx hb d_MO_member_12 rfl (fun h1 => ?_) (fun h1 => ?_)
    · have h1 : k1 = 6 := (nI_eq (by omega) (by decide)).mp h1
      have hmp : mpl x.2 s1 = nix s1 (ksN x.2) := if_pos (hk1x.trans h1)
      refine lv_aload_n hx hb d_MO_member_17 rfl (lv_at hl 0 rfl) ?_
      refine lv_iload_n hx hb d_MO_member_18 rfl (lv_at hl 1 rfl) ?_
      refine lv_iload_n hx hb d_MO_member_19 rfl (lv_at hl 2 rfl) ?_
      refine W.eq (g2 := F0 m 20 ls [.int (nI (bsK tr + x.1)), .int (nI tr), .ref y]) rfl ?_
      have hPc : va_P (dC, dI) vwCl [(y, .inr (12, [.int lim, .int rm, .ref a_size, .ref a_kind, .ref a_level, .ref a_at, .ref a_len, .ref a_nameAt, .ref a_nameLen, .ref a_num, .ref a_pool, .int i_pooled, .ref a_draft, .int (nI L.length), .int (nI a), .int i_code, .ref a_open, .int i_opened, .int i_heldAt, .int i_heldLen, .ref a_word, .int (nI s1.length), .int lk, .int bd, .int gi, .long li, .ref a_list, .ref a_next, .ref a_result, .int i_listed, .int fo, .int (nI tr), .int i_results, .int fu, .int i_working, .ref a_twin, .int i_seen, .int i_wanted, .int i_got, .ref a_came, .ref a_closer])), (a_size, .inl (cI, 10, .inl sf)), (a_level, .inl (cI, 576, .inl vf))] _ := hP.sub (ws' := [(y, .inr (12, [.int lim, .int rm, .ref a_size, .ref a_kind, .ref a_level, .ref a_at, .ref a_len, .ref a_nameAt, .ref a_nameLen, .ref a_num, .ref a_pool, .int i_pooled, .ref a_draft, .int (nI L.length), .int (nI a), .int i_code, .ref a_open, .int i_opened, .int i_heldAt, .int i_heldLen, .ref a_word, .int (nI s1.length), .int lk, .int bd, .int gi, .long li, .ref a_list, .ref a_next, .ref a_result, .int i_listed, .int fo, .int (nI tr), .int i_results, .int fu, .int i_working, .ref a_twin, .int i_seen, .int i_wanted, .int i_got, .ref a_came, .ref a_closer])), (a_size, .inl (cI, 10, .inl sf)), (a_level, .inl (cI, 576, .inl vf))]) [0, 1, 3] rfl
      have hKc := hK.sub (tys' := [(cI, .int)]) [0] rfl
      refine vp_callSi (W.runV (As := [.int (nI tr), .int (nI (bsK tr + x.1))]) (rest := []) ⟨hx, hb, hml, hown, htb⟩ (q_MO_behind l dC dI y lim rm li a_size a_kind a_level a_at a_len a_nameAt a_nameLen a_num a_pool a_draft a_open a_word a_list a_next a_result a_twin a_came a_closer i_pooled (nI L.length) (nI a) i_code i_opened i_heldAt i_heldLen (nI s1.length) lk bd gi i_listed fo (nI tr) i_results fu i_working i_seen i_wanted i_got cI sf vf tr w0.length (lvR w0) x.1 (by omega) hsf (by omega) hlv (by omega)) (cwV 2 htb (g_V (fun _ h => h) m_1338 m_1335 m_1337 m_1662 m_9) rfl rfl rfl (by decide +kernel) ⟨Nat.le_of_ble_eq_true rfl, Nat.le_of_ble_eq_true rfl⟩) ⟨fun a U g mk q => by obtain ⟨q0, qP, qK⟩ := q; exact ⟨q0, qP, va_K.moved (u := U) (U := U.calling g mk a) (Vm.Alike.refl U.vm) qK⟩, va_recv hKc hPc (ci := 12) rfl (q0 := 0) rfl, fun U hU hW => ⟨rfl, by rw [hU]; exact hPc, va_K.moved hW.alike hKc⟩⟩ rfl rfl hl.1 rfl (lv_room (Nat.le_of_ble_eq_true rfl)) d_MO_member_20 ⟨Nat.le_of_ble_eq_true rfl, Nat.le_of_ble_eq_true rfl⟩) (fun r21 hw22 => ?_)
      replace hw22 : r21 = nI (bsK tr + bhd (lvR w0) w0.length ((lvR w0) x.1) (x.1 + 1)) := hw22
      clear hPc hKc
      have hrb : r21 = nI (bsK tr + (x.1 + 1 + slen (ksR x.2))) := by rw [hw22, hend]
      subst hrb
      refine lv_istore_n hx hb d_MO_member_23 rfl hl (by decide) rfl (fun ls hl => ?_)
      replace hl : lv_has ls 5 [(3, .int (nI (bsK tr + (x.1 + 1 + slen (ksR x.2))))), (0, .ref y), (1, .int (nI tr)), (2, .int (rwI (bsK tr) (some x)))] := hl
      refine lv_iload_n hx hb d_MO_member_24 rfl (lv_at hl 3 rfl) ?_
      refine W.eq (g2 := F0 m 25 ls [.int (nI (bsK tr + x.1))]) rfl ?_
      refine lv_iconst (v := 1) hx hb d_MO_member_25 (by decide) ?_
      refine lv_iadd hx hb d_MO_member_26 ?_
      refine W.eq (congrArg (fun z => F0 m 27 ls (.int z :: [])) (nI_1 _ : ((nI (bsK tr + x.1)) + 1) = nI (bsK tr + (x.1 + 1 + slen ((ksR x.2).take 0))))) ?_
      refine lv_istore hx hb d_MO_member_27 hl (by decide) rfl (fun ls hl => ?_)
      replace hl : lv_has ls 5 [(4, .int (nI (bsK tr + (x.1 + 1 + slen ((ksR x.2).take 0))))), (3, .int (nI (bsK tr + (x.1 + 1 + slen (ksR x.2))))), (0, .ref y), (1, .int (nI tr)), (2, .int (rwI (bsK tr) (some x)))] := hl
      have hloop : ∀ (k9 : Nat) (t1 : Nat) (ls : Array Slot), (ksR x.2).length - t1 = k9 → (t1 ≤ (ksR x.2).length) → (∀ j, j < t1 → ¬ (ksN x.2).getD j [] = s1) → lv_has ls 5 [(4, .int (nI (bsK tr + (x.1 + 1 + slen ((ksR x.2).take t1))))), (3, .int (nI (bsK tr + (x.1 + 1 + slen (ksR x.2))))), (0, .ref y), (1, .int (nI tr)), (2, .int (rwI (bsK tr) (some x)))] → W p l e (headSpec ws_MO_member ({ frames := 2, cells := 0, slots := 0, locals := 43 })).room s m args below meth c s.heap [] 0 0 Q (F0 m 29 ls []) := by
        intro k9
        induction k9 using Nat.strongRecOn with
        | ind k9 ih =>
          intro t1 ls hk9 ht0 hno hl
          refine lv_iload hx hb d_MO_member_29 (lv_at hl 0 rfl) ?_
          refine lv_iload_n hx hb d_MO_member_31 rfl (lv_at hl 1 rfl) ?_
          refine lv_icmp_ge (tgt := 71) hx hb d_MO_member_32 rfl (fun h5 => ?_) (fun h5 => ?_)
          · have ht1 : t1 = (ksR x.2).length := by rcases Nat.lt_or_ge t1 (ksR x.2).length with h | h; (have h9 := hkid.lt_all h; have := (nI_leI (by omega) (by omega)).mp h5; omega); omega
            refine lv_iconst (v := (-1)) hx hb d_MO_member_71 (by decide) ?_
            rw [hQ]
            exact W.iret (v := (-1)) hx hb hr (fun t ht hW => ⟨(-1), rfl, by show (-1 : Int32) = rwI (bsK tr) ((mpl x.2 s1).map (kidL x)); rw [hmp, nix_all (fun j hj => hno j (by rw [ksN_len] at hj; omega))]; rfl, ht⟩) (fun q h => absurd h List.not_mem_nil) d_MO_member_72
          · have hst1 := slen_le (rs := ksR x.2) t1
            have ht1 : t1 < (ksR x.2).length := by rcases Nat.lt_or_ge t1 (ksR x.2).length with h | h; exact h; exact absurd ((nI_leI (by omega) (by omega)).mpr (by rw [List.take_of_length_le h]; omega)) h5
            have hlt9 := hkid.lt_all ht1
            have hrw := hkid.at ht1
            have hwk : WR e1 ((ksR x.2).getD t1 []) := by rw [List.getD_eq_getElem?_getD, List.getElem?_eq_getElem ht1]; exact hws _ (List.getElem_mem ht1)
            obtain ⟨d5, hd5⟩ := wr_succ hwk
            rw [hd5] at hwk
            obtain ⟨k5, num5, rt5, ee5, -⟩ := wr_parts hwk
            rw [ee5, if_pos h1] at hrw
            obtain ⟨pq, hq1, hq2, hq3⟩ := (hTR _ _ hrw.row).nam.2 0 _ rfl
            have hpq := hq3.1
            refine lv_aload_n hx hb d_MO_member_35 rfl (lv_at hl 2 rfl) ?_
            refine lv_aload_n hx hb d_MO_member_36 rfl (lv_at hl 2 rfl) ?_
            refine va_get (D := (dC, dI)) (ci := 12) (v := .ref a_nameAt) (C := R_MO) (T := T_MO) (N := 41) hx hb htb in_MO hown hK hP 0 rfl rfl 7 (by decide) (htb _ m_1146) (fun _ h9 => h9) rfl d_MO_member_37 ?_
            refine lv_iload hx hb d_MO_member_40 (lv_at hl 0 rfl) ?_
            refine va_iald hx hb hK hP 4 0 rfl rfl (vp_in_nI (by omega) (by omega)) d_MO_member_42 ?_
            refine W.eq (congrArg (fun z => F0 m 43 ls (.int z :: [.ref y])) (by rw [nI_clamp (by omega)]; exact hq1 : (xf (nI (bsK tr + (x.1 + 1 + slen ((ksR x.2).take t1)))).toNatClampNeg) = nI pq)) ?_
            refine lv_aload_n hx hb d_MO_member_43 rfl (lv_at hl 2 rfl) ?_
            refine va_get (D := (dC, dI)) (ci := 12) (v := .ref a_nameLen) (C := R_MO) (T := T_MO) (N := 41) hx hb htb in_MO hown hK hP 0 rfl rfl 8 (by decide) (htb _ m_1147) (fun _ h9 => h9) rfl d_MO_member_44 ?_
            refine lv_iload hx hb d_MO_member_47 (lv_at hl 0 rfl) ?_
            refine va_iald hx hb hK hP 5 0 rfl rfl (vp_in_nI (by omega) (by omega)) d_MO_member_49 ?_
            refine W.eq (congrArg (fun z => F0 m 50 ls (.int z :: [.int (nI pq), .ref y])) (by rw [nI_clamp (by omega)]; exact hq2 : (nf (nI (bsK tr + (x.1 + 1 + slen ((ksR x.2).take t1)))).toNatClampNeg) = nI ((ksN x.2).getD t1 []).length)) ?_
            have hPc : va_P (dC, dI) vwCl [(y, .inr (12, [.int lim, .int rm, .ref a_size, .ref a_kind, .ref a_level, .ref a_at, .ref a_len, .ref a_nameAt, .ref a_nameLen, .ref a_num, .ref a_pool, .int i_pooled, .ref a_draft, .int (nI L.length), .int (nI a), .int i_code, .ref a_open, .int i_opened, .int i_heldAt, .int i_heldLen, .ref a_word, .int (nI s1.length), .int lk, .int bd, .int gi, .long li, .ref a_list, .ref a_next, .ref a_result, .int i_listed, .int fo, .int (nI tr), .int i_results, .int fu, .int i_working, .ref a_twin, .int i_seen, .int i_wanted, .int i_got, .ref a_came, .ref a_closer])), (a_pool, .inl (cC, 8400, .inl pf)), (a_word, .inl (cC, 160, .inl wf))] _ := hP.sub (ws' := [(y, .inr (12, [.int lim, .int rm, .ref a_size, .ref a_kind, .ref a_level, .ref a_at, .ref a_len, .ref a_nameAt, .ref a_nameLen, .ref a_num, .ref a_pool, .int i_pooled, .ref a_draft, .int (nI L.length), .int (nI a), .int i_code, .ref a_open, .int i_opened, .int i_heldAt, .int i_heldLen, .ref a_word, .int (nI s1.length), .int lk, .int bd, .int gi, .long li, .ref a_list, .ref a_next, .ref a_result, .int i_listed, .int fo, .int (nI tr), .int i_results, .int fu, .int i_working, .ref a_twin, .int i_seen, .int i_wanted, .int i_got, .ref a_came, .ref a_closer])), (a_pool, .inl (cC, 8400, .inl pf)), (a_word, .inl (cC, 160, .inl wf))]) [0, 6, 7] rfl
            have hKc := hK.sub (tys' := [(cC, .char)]) [1] rfl
            refine vp_callSi (W.runV (As := [.int (nI pq), .int (nI ((ksN x.2).getD t1 []).length)]) (rest := []) ⟨hx, hb, hml, hown, htb⟩ (q_MO_isWord l dC dI y lim rm li a_size a_kind a_level a_at a_len a_nameAt a_nameLen a_num a_pool a_draft a_open a_word a_list a_next a_result a_twin a_came a_closer i_pooled (nI L.length) (nI a) i_code i_opened i_heldAt i_heldLen lk bd gi i_listed fo (nI tr) i_results fu i_working i_seen i_wanted i_got cC pf wf pn pq ((ksN x.2).getD t1 []) s1 hq3 hpn hwz hs160 hsc) (cwV 2 htb (g_V (fun _ h => h) m_1345 m_1342 m_1344 m_1663 m_9) rfl rfl rfl (by decide +kernel) ⟨Nat.le_of_ble_eq_true rfl, Nat.le_of_ble_eq_true rfl⟩) ⟨fun a U g mk q => by obtain ⟨q0, qP, qK⟩ := q; exact ⟨q0, qP, va_K.moved (u := U) (U := U.calling g mk a) (Vm.Alike.refl U.vm) qK⟩, va_recv hKc hPc (ci := 12) rfl (q0 := 0) rfl, fun U hU hW => ⟨rfl, by rw [hU]; exact hPc, va_K.moved hW.alike hKc⟩⟩ rfl rfl hl.1 rfl (lv_room (Nat.le_of_ble_eq_true rfl)) d_MO_member_50 ⟨Nat.le_of_ble_eq_true rfl, Nat.le_of_ble_eq_true rfl⟩) (fun r23 hw24 => ?_)
            replace hw24 : r23 = bI (decide (((ksN x.2).getD t1 []) = s1)) := hw24
            clear hPc hKc
            refine lv_if_eq (tgt := 59) hx hb d_MO_member_53 rfl (fun h6 => ?_) (fun h6 => ?_)
            · have h6 : ¬ (ksN x.2).getD t1 [] = s1 := of_decide_eq_false (bI_eq.mp (show bI (decide ((ksN x.2).getD t1 [] = s1)) = 0 from hw24 ▸ h6))
              have hke := hkid.end_ ht1
              refine lv_aload_n hx hb d_MO_member_59 rfl (lv_at hl 2 rfl) ?_
              refine lv_iload_n hx hb d_MO_member_60 rfl (lv_at hl 3 rfl) ?_
              refine lv_iload hx hb d_MO_member_61 (lv_at hl 0 rfl) ?_
              have hPc : va_P (dC, dI) vwCl [(y, .inr (12, [.int lim, .int rm, .ref a_size, .ref a_kind, .ref a_level, .ref a_at, .ref a_len, .ref a_nameAt, .ref a_nameLen, .ref a_num, .ref a_pool, .int i_pooled, .ref a_draft, .int (nI L.length), .int (nI a), .int i_code, .ref a_open, .int i_opened, .int i_heldAt, .int i_heldLen, .ref a_word, .int (nI s1.length), .int lk, .int bd, .int gi, .long li, .ref a_list, .ref a_next, .ref a_result, .int i_listed, .int fo, .int (nI tr), .int i_results, .int fu, .int i_working, .ref a_twin, .int i_seen, .int i_wanted, .int i_got, .ref a_came, .ref a_closer])), (a_size, .inl (cI, 10, .inl sf)), (a_level, .inl (cI, 576, .inl vf))] _ := hP.sub (ws' := [(y, .inr (12, [.int lim, .int rm, .ref a_size, .ref a_kind, .ref a_level, .ref a_at, .ref a_len, .ref a_nameAt, .ref a_nameLen, .ref a_num, .ref a_pool, .int i_pooled, .ref a_draft, .int (nI L.length), .int (nI a), .int i_code, .ref a_open, .int i_opened, .int i_heldAt, .int i_heldLen, .ref a_word, .int (nI s1.length), .int lk, .int bd, .int gi, .long li, .ref a_list, .ref a_next, .ref a_result, .int i_listed, .int fo, .int (nI tr), .int i_results, .int fu, .int i_working, .ref a_twin, .int i_seen, .int i_wanted, .int i_got, .ref a_came, .ref a_closer])), (a_size, .inl (cI, 10, .inl sf)), (a_level, .inl (cI, 576, .inl vf))]) [0, 1, 3] rfl
              have hKc := hK.sub (tys' := [(cI, .int)]) [0] rfl
              refine vp_callSi (W.runV (As := [.int (nI tr), .int (nI (bsK tr + (x.1 + 1 + slen ((ksR x.2).take t1))))]) (rest := []) ⟨hx, hb, hml, hown, htb⟩ (q_MO_behind l dC dI y lim rm li a_size a_kind a_level a_at a_len a_nameAt a_nameLen a_num a_pool a_draft a_open a_word a_list a_next a_result a_twin a_came a_closer i_pooled (nI L.length) (nI a) i_code i_opened i_heldAt i_heldLen (nI s1.length) lk bd gi i_listed fo (nI tr) i_results fu i_working i_seen i_wanted i_got cI sf vf tr w0.length (lvR w0) (x.1 + 1 + slen ((ksR x.2).take t1)) (by omega) hsf (by omega) hlv hke.1) (cwV 2 htb (g_V (fun _ h => h) m_1338 m_1335 m_1337 m_1662 m_9) rfl rfl rfl (by decide +kernel) ⟨Nat.le_of_ble_eq_true rfl, Nat.le_of_ble_eq_true rfl⟩) ⟨fun a U g mk q => by obtain ⟨q0, qP, qK⟩ := q; exact ⟨q0, qP, va_K.moved (u := U) (U := U.calling g mk a) (Vm.Alike.refl U.vm) qK⟩, va_recv hKc hPc (ci := 12) rfl (q0 := 0) rfl, fun U hU hW => ⟨rfl, by rw [hU]; exact hPc, va_K.moved hW.alike hKc⟩⟩ rfl rfl hl.1 rfl (lv_room (Nat.le_of_ble_eq_true rfl)) d_MO_member_63 ⟨Nat.le_of_ble_eq_true rfl, Nat.le_of_ble_eq_true rfl⟩) (fun r25 hw26 => ?_)
              replace hw26 : r25 = nI (bsK tr + bhd (lvR w0) w0.length ((lvR w0) (x.1 + 1 + slen ((ksR x.2).take t1))) ((x.1 + 1 + slen ((ksR x.2).take t1)) + 1)) := hw26
              clear hPc hKc
              have hrb : r25 = nI (bsK tr + (x.1 + 1 + slen ((ksR x.2).take (t1 + 1)))) := by rw [hw26, hke.2]
              subst hrb
              refine lv_istore hx hb d_MO_member_66 hl (by decide) rfl (fun ls hl => ?_)
              replace hl : lv_has ls 5 [(4, .int (nI (bsK tr + (x.1 + 1 + slen ((ksR x.2).take (t1 + 1)))))), (3, .int (nI (bsK tr + (x.1 + 1 + slen (ksR x.2))))), (0, .ref y), (1, .int (nI tr)), (2, .int (rwI (bsK tr) (some x)))] := hl
              refine lv_goto (tgt := 29) hx hb d_MO_member_68 rfl ?_
              exact ih ((ksR x.2).length - (t1 + 1)) (by omega) (t1 + 1) ls rfl (by omega) (fun j hj => by rcases Nat.lt_succ_iff_lt_or_eq.mp hj with h9 | rfl; exact hno j h9; exact h6) (lv_sub hl [0, 1, 2, 3, 4] rfl)
            · have h6 : (ksN x.2).getD t1 [] = s1 := of_decide_eq_true (bI_ne.mp (show ¬ bI (decide ((ksN x.2).getD t1 [] = s1)) = 0 from hw24 ▸ h6))
              refine lv_iload hx hb d_MO_member_56 (lv_at hl 0 rfl) ?_
              rw [hQ]
              exact W.iret (v := (nI (bsK tr + (x.1 + 1 + slen ((ksR x.2).take t1))))) hx hb hr (fun t ht hW => ⟨(nI (bsK tr + (x.1 + 1 + slen ((ksR x.2).take t1)))), rfl, by show nI (bsK tr + (x.1 + 1 + slen ((ksR x.2).take t1))) = rwI (bsK tr) ((mpl x.2 s1).map (kidL x)); rw [hmp, nix_at (by rw [ksN_len]; exact ht1) hno h6]; rfl, ht⟩) (fun q h => absurd h List.not_mem_nil) d_MO_member_58
      exact hloop _ 0 ls rfl (Nat.zero_le _) (fun j hj => absurd hj (Nat.not_lt_zero _)) (lv_sub hl [0, 1, 2, 3, 4] rfl)
    · have h1 : ¬ k1 = 6 := fun h => h1 (by rw [h]; rfl)
      refine lv_iconst (v := (-1)) hx hb d_MO_member_15 (by decide) ?_
      rw [hQ]
      exact W.iret (v := (-1)) hx hb hr (fun t ht hW => ⟨(-1), rfl, by show (-1 : Int32) = rwI (bsK tr) ((mpl x.2 s1).map (kidL x)); rw [show mpl x.2 s1 = none from if_neg (fun h => h1 (hk1x.symm.trans h))]; rfl, ht⟩) (fun q h => absurd h List.not_mem_nil) d_MO_member_16
set_option maxHeartbeats 1000000 in
set_option maxRecDepth 100000 in
/-- element(tree, row, k) by places -/
theorem q_MO_elX (l : Launch) (dC : Nat → ClassId) (dI : Nat → Nat → Nat) (y : Nat) (lim : Int32) (rm : Int32) (a_size : Nat) (a_kind : Nat) (a_level : Nat) (a_at : Nat) (a_len : Nat) (a_nameAt : Nat) (a_nameLen : Nat) (a_num : Nat) (a_pool : Nat) (a_draft : Nat) (a_open : Nat) (a_word : Nat) (a_list : Nat) (a_next : Nat) (a_result : Nat) (a_twin : Nat) (a_came : Nat) (a_closer : Nat) (i_pooled : Int32) (i_code : Int32) (i_opened : Int32) (i_heldAt : Int32) (i_heldLen : Int32) (i_listed : Int32) (i_results : Int32) (i_working : Int32) (i_seen : Int32) (i_wanted : Int32) (i_got : Int32) (cC : ClassId) (cI : ClassId) (cL : ClassId) (f : Nat → Int32) (L : List Nat) (a : Nat) (li : Int64) (tr : Nat) (lt : Int32) (bd : Int32) (gi : Int32) (lk : Int32) (fo : Int32) (fu : Int32) (sf : Nat → Int32) (kf : Nat → Int32) (vf : Nat → Int32) (af : Nat → Int32) (lf : Nat → Int32) (xf : Nat → Int32) (nf : Nat → Int32) (uf : Nat → Int64) (pf : Nat → Int32) (pn : Nat) (w0 : List Row) (xo : Option Plc) (v : Int32) (ui : Int) (htr : tr < 3) (hsf : sf tr = nI w0.length) (hw32 : w0.length ≤ 32) (hTR : TR (bsK tr) w0 kf vf af lf xf nf uf pf pn) (hWR : WR 12 w0) (hpn : pn ≤ 8400) (hxo : ∀ x8, xo = some x8 → LOK w0 x8) (hui : ∀ x8, xo = some x8 → v = iI ui ∧ -2000 ≤ ui ∧ ui ≤ 2000) : Met l y_MO_element ws_MO_element ({ frames := 3, cells := 0, slots := 0, locals := 68 }) (va_Pc [.ref y, .int (nI tr), .int (rwI (bsK tr) xo), .int v] (fun U => va_P (dC, dI) vwCl [(y, .inr (12, [.int lim, .int rm, .ref a_size, .ref a_kind, .ref a_level, .ref a_at, .ref a_len, .ref a_nameAt, .ref a_nameLen, .ref a_num, .ref a_pool, .int i_pooled, .ref a_draft, .int (nI L.length), .int (nI a), .int i_code, .ref a_open, .int i_opened, .int i_heldAt, .int i_heldLen, .ref a_word, .int lt, .int lk, .int bd, .int gi, .long li, .ref a_list, .ref a_next, .ref a_result, .int i_listed, .int fo, .int (nI tr), .int i_results, .int fu, .int i_working, .ref a_twin, .int i_seen, .int i_wanted, .int i_got, .ref a_came, .ref a_closer])), (a_size, .inl (cI, 10, .inl sf)), (a_kind, .inl (cI, 576, .inl kf)), (a_level, .inl (cI, 576, .inl vf))] U.heap ∧ va_K (dC, dI) vwCl [(cI, .int)] U)) (vp_Si (fun (r : Int32) => r = rwI (bsK tr) (xo.bind (fun x8 => if hdK x8.2 = 5 ∧ 0 ≤ ui ∧ ui < (ksR x8.2).length then some (kidL x8 ui.toNat) else none)))) 0 0 (fun _ => False) := by
  refine Met.ofW (cc := c_MO_element) (maxL := 4) (ret := (some .int)) (by decide) rfl ?_
  intro p e s m args below meth c s₁ B hml hv
  obtain ⟨rfl, hP, hK⟩ := hv
  have hx := B.exec
  have hb := B.bytes
  have hr := B.returns
  have hts := atoms_spec (ws := ws_MO_element) B.pre
  have htb := fun w (h : w ∈ TBL) => hts w (List.mem_cons_of_mem _ h)
  have hown : s.vm.findClass R_MO = some m.cls := findClass_of_methodNamed B.named
  have hlocks := B.notSynchronized
  have hl := lv_entry ([.ref y, .int (nI tr), .int (rwI (bsK tr) xo), .int v]) (n := 4) (Nat.le_of_ble_eq_true rfl)
  rw [lg_entry_eq]
  generalize (lg_sl ([.ref y, .int (nI tr), .int (rwI (bsK tr) xo), .int v]) ++ List.replicate (4 - (lg_sl ([.ref y, .int (nI tr), .int (rwI (bsK tr) xo), .int v])).length) Slot.unset).toArray = ls at hl ⊢
  replace hl : lv_has ls 4 [(0, .ref y), (1, .int (nI tr)), (2, .int (rwI (bsK tr) xo)), (3, .int v)] := hl
  have hbt : bsK tr = 32 * tr := bsK_small (by omega)
  have hlv : ∀ j, j < w0.length → vf (bsK tr + j) = nI (lvR w0 j) ∧ lvR w0 j < 1000 := fun j hj => hTR.lvs hWR (by decide) hj
  rcases xo with _ | x
  · refine lv_iload_n hx hb d_MO_element_0 rfl (lv_at hl 2 rfl) ?_
    refine W.eq (g2 := F0 m 1 ls [.int (-1)]) rfl ?_
    refine lv_if_lt (tgt := 28) hx hb d_MO_element_1 rfl (fun _ => ?_) (fun h9 => absurd (by decide) h9)
    refine lv_iconst (v := (-1)) hx hb d_MO_element_28 (by decide) ?_
    exact W.iret (v := (-1)) hx hb hr (fun t ht hW => ⟨(-1), rfl, rfl, ht⟩) (fun q h => absurd h List.not_mem_nil) d_MO_element_29
  · obtain ⟨l1, nm1, e1, hs1, hw1, he1⟩ := hxo x rfl
    have hle1 := hs1.le
    have hpo1 := wr_pos hw1
    obtain ⟨k1, num1, rt1, ee1, hk1x, hk5, hk6, hws⟩ := wr_parts hw1
    have hs2 : SUB w0 x.1 l1 nm1 ((k1, 0, num1, rt1, []) :: kidRows k1 (ksN x.2) (ksR x.2)) := ee1 ▸ hs1
    have hw2 : WR (e1 + 1) ((k1, 0, num1, rt1, []) :: kidRows k1 (ksN x.2) (ksR x.2)) := ee1 ▸ hw1
    have hkid := hs2.kids (ksN_len x.2) hws
    have hend := hs2.end_ hw2 (ksN_len x.2)
    have hkf := (hTR.at hs2.row).2.1
    have hrl : (ksR x.2).length ≤ slen (ksR x.2) := kid_len hws
    have hLx : x.2.length = 1 + slen (ksR x.2) := by have h9 := congrArg List.length ee1; rw [List.length_cons, len_kids k1 _ _ (ksN_len x.2)] at h9; omega
    obtain ⟨hvi, hu1, hu2⟩ := hui x rfl
    refine lv_iload_n hx hb d_MO_element_0 rfl (lv_at hl 2 rfl) ?_
    refine W.eq (g2 := F0 m 1 ls [.int (nI (bsK tr + x.1))]) rfl ?_
    refine lv_if_lt (tgt := 28) hx hb d_MO_element_1 rfl (fun h9 => absurd h9 (nI_pos (by omega))) (fun _ => ?_)
    refine lv_aload_n hx hb d_MO_element_4 rfl (lv_at hl 0 rfl) ?_
    refine va_get (D := (dC, dI)) (ci := 12) (v := .ref a_kind) (C := R_MO) (T := T_MO) (N := 41) hx hb htb in_MO hown hK hP 0 rfl rfl 3 (by decide) (htb _ m_1142) (fun _ h9 => h9) rfl d_MO_element_5 ?_
    refine lv_iload_n hx hb d_MO_element_8 rfl (lv_at hl 2 rfl) ?_
    refine W.eq (g2 := F0 m 9 ls [.int (nI (bsK tr + x.1)), .ref a_kind]) rfl ?_
    refine va_iald hx hb hK hP 2 0 rfl rfl (vp_in_nI (by omega) (by omega)) d_MO_element_9 ?_
    refine W.eq (congrArg (fun z => F0 m 10 ls (.int z :: [])) (by rw [nI_clamp (by omega)]; exact hkf : (kf (nI (bsK tr + x.1)).toNatClampNeg) = nI k1)) ?_
    refine lv_iconst (v := 5) hx hb d_MO_element_10 (by decide) ?_
    refine lv_icmp_ne (tgt := 28) hx hb d_MO_element_11 rfl (fun h1 => ?_) (fun h1 => ?_)
    · have h1 : ¬ k1 = 5 := fun h => h1 (by rw [h]; rfl)
      refine lv_iconst (v := (-1)) hx hb d_MO_element_28 (by decide) ?_
      exact W.iret (v := (-1)) hx hb hr (fun t ht hW => ⟨(-1), rfl, by show (-1 : Int32) = rwI (bsK tr) (if hdK x.2 = 5 ∧ 0 ≤ ui ∧ ui < (ksR x.2).length then some (kidL x ui.toNat) else none); rw [if_neg (fun h => h1 (hk1x.symm.trans h.1))]; rfl, ht⟩) (fun q h => absurd h List.not_mem_nil) d_MO_element_29
    · have h1 : k1 = 5 := (nI_eq (by omega) (by decide)).mp h1
      refine lv_iload_n hx hb d_MO_element_14 rfl (lv_at hl 3 rfl) ?_
      refine lv_if_lt (tgt := 28) hx hb d_MO_element_15 rfl (fun h2 => ?_) (fun h2 => ?_)
      · have h2 : ui < 0 := (iI_lt0 (by omega) (by omega)).mp (hvi ▸ h2)
        refine lv_iconst (v := (-1)) hx hb d_MO_element_28 (by decide) ?_
        exact W.iret (v := (-1)) hx hb hr (fun t ht hW => ⟨(-1), rfl, by show (-1 : Int32) = rwI (bsK tr) (if hdK x.2 = 5 ∧ 0 ≤ ui ∧ ui < (ksR x.2).length then some (kidL x ui.toNat) else none); rw [if_neg (by omega)]; rfl, ht⟩) (fun q h => absurd h List.not_mem_nil) d_MO_element_29
      · have h2 : 0 ≤ ui := Int.not_lt.mp (fun h => h2 (hvi ▸ (iI_lt0 (by omega) (by omega)).mpr h))
        obtain ⟨un, rfl⟩ := Int.eq_ofNat_of_zero_le h2
        have hvn : v = nI un := hvi.trans (iI_nat un)
        refine lv_iload_n hx hb d_MO_element_18 rfl (lv_at hl 3 rfl) ?_
        refine lv_aload_n hx hb d_MO_element_19 rfl (lv_at hl 0 rfl) ?_
        refine lv_iload_n hx hb d_MO_element_20 rfl (lv_at hl 1 rfl) ?_
        refine lv_iload_n hx hb d_MO_element_21 rfl (lv_at hl 2 rfl) ?_
        refine W.eq (g2 := F0 m 22 ls [.int (nI (bsK tr + x.1)), .int (nI tr), .ref y, .int v]) rfl ?_
        have hPc : va_P (dC, dI) vwCl [(y, .inr (12, [.int lim, .int rm, .ref a_size, .ref a_kind, .ref a_level, .ref a_at, .ref a_len, .ref a_nameAt, .ref a_nameLen, .ref a_num, .ref a_pool, .int i_pooled, .ref a_draft, .int (nI L.length), .int (nI a), .int i_code, .ref a_open, .int i_opened, .int i_heldAt, .int i_heldLen, .ref a_word, .int lt, .int lk, .int bd, .int gi, .long li, .ref a_list, .ref a_next, .ref a_result, .int i_listed, .int fo, .int (nI tr), .int i_results, .int fu, .int i_working, .ref a_twin, .int i_seen, .int i_wanted, .int i_got, .ref a_came, .ref a_closer])), (a_size, .inl (cI, 10, .inl sf)), (a_level, .inl (cI, 576, .inl vf))] _ := hP.sub (ws' := [(y, .inr (12, [.int lim, .int rm, .ref a_size, .ref a_kind, .ref a_level, .ref a_at, .ref a_len, .ref a_nameAt, .ref a_nameLen, .ref a_num, .ref a_pool, .int i_pooled, .ref a_draft, .int (nI L.length), .int (nI a), .int i_code, .ref a_open, .int i_opened, .int i_heldAt, .int i_heldLen, .ref a_word, .int lt, .int lk, .int bd, .int gi, .long li, .ref a_list, .ref a_next, .ref a_result, .int i_listed, .int fo, .int (nI tr), .int i_results, .int fu, .int i_working, .ref a_twin, .int i_seen, .int i_wanted, .int i_got, .ref a_came, .ref a_closer])), (a_size, .inl (cI, 10, .inl sf)), (a_level, .inl (cI, 576, .inl vf))]) [0, 1, 3] rfl
        have hKc := hK.sub (tys' := [(cI, .int)]) [0] rfl
        refine vp_callSi (W.runV (As := [.int (nI tr), .int (nI (bsK tr + x.1))]) (rest := [.int v]) ⟨hx, hb, hml, hown, htb⟩ (q_MO_inside l dC dI y lim rm li a_size a_kind a_level a_at a_len a_nameAt a_nameLen a_num a_pool a_draft a_open a_word a_list a_next a_result a_twin a_came a_closer i_pooled (nI L.length) (nI a) i_code i_opened i_heldAt i_heldLen lt lk bd gi i_listed fo (nI tr) i_results fu i_working i_seen i_wanted i_got cI sf vf tr w0 x.1 l1 nm1 k1 num1 rt1 (ksN x.2) (ksR x.2) e1 (by omega) hsf (by omega) hlv hs2 hw2 (ksN_len x.2) hws) (cwV 2 htb (g_V (fun _ h => h) m_1433 m_1430 m_1432 m_1681 m_9) rfl rfl rfl (by decide +kernel) ⟨Nat.le_of_ble_eq_true rfl, Nat.le_of_ble_eq_true rfl⟩) ⟨fun a U g mk q => by obtain ⟨q0, qP, qK⟩ := q; exact ⟨q0, qP, va_K.moved (u := U) (U := U.calling g mk a) (Vm.Alike.refl U.vm) qK⟩, va_recv hKc hPc (ci := 12) rfl (q0 := 0) rfl, fun U hU hW => ⟨rfl, by rw [hU]; exact hPc, va_K.moved hW.alike hKc⟩⟩ rfl rfl hl.1 rfl (lv_room (Nat.le_of_ble_eq_true rfl)) d_MO_element_22 ⟨Nat.le_of_ble_eq_true rfl, Nat.le_of_ble_eq_true rfl⟩) (fun r21 hw22 => ?_)
        replace hw22 : r21 = nI (ksR x.2).length := hw22
        clear hPc hKc
        obtain rfl := hw22
        refine lv_icmp_lt (tgt := 30) hx hb d_MO_element_25 rfl (fun h3 => ?_) (fun h3 => ?_)
        · have h3 : un < (ksR x.2).length := (nI_ltI (by omega) (by omega)).mp (hvn ▸ h3)
          refine lv_aload_n hx hb d_MO_element_30 rfl (lv_at hl 0 rfl) ?_
          refine lv_iload_n hx hb d_MO_element_31 rfl (lv_at hl 1 rfl) ?_
          refine lv_iload_n hx hb d_MO_element_32 rfl (lv_at hl 2 rfl) ?_
          refine lv_iload_n hx hb d_MO_element_33 rfl (lv_at hl 3 rfl) ?_
          refine W.eq (g2 := F0 m 34 ls [.int (nI un), .int (nI (bsK tr + x.1)), .int (nI tr), .ref y]) (by rw [hvn]; rfl) ?_
          have hPc : va_P (dC, dI) vwCl [(y, .inr (12, [.int lim, .int rm, .ref a_size, .ref a_kind, .ref a_level, .ref a_at, .ref a_len, .ref a_nameAt, .ref a_nameLen, .ref a_num, .ref a_pool, .int i_pooled, .ref a_draft, .int (nI L.length), .int (nI a), .int i_code, .ref a_open, .int i_opened, .int i_heldAt, .int i_heldLen, .ref a_word, .int lt, .int lk, .int bd, .int gi, .long li, .ref a_list, .ref a_next, .ref a_result, .int i_listed, .int fo, .int (nI tr), .int i_results, .int fu, .int i_working, .ref a_twin, .int i_seen, .int i_wanted, .int i_got, .ref a_came, .ref a_closer])), (a_size, .inl (cI, 10, .inl sf)), (a_level, .inl (cI, 576, .inl vf))] _ := hP.sub (ws' := [(y, .inr (12, [.int lim, .int rm, .ref a_size, .ref a_kind, .ref a_level, .ref a_at, .ref a_len, .ref a_nameAt, .ref a_nameLen, .ref a_num, .ref a_pool, .int i_pooled, .ref a_draft, .int (nI L.length), .int (nI a), .int i_code, .ref a_open, .int i_opened, .int i_heldAt, .int i_heldLen, .ref a_word, .int lt, .int lk, .int bd, .int gi, .long li, .ref a_list, .ref a_next, .ref a_result, .int i_listed, .int fo, .int (nI tr), .int i_results, .int fu, .int i_working, .ref a_twin, .int i_seen, .int i_wanted, .int i_got, .ref a_came, .ref a_closer])), (a_size, .inl (cI, 10, .inl sf)), (a_level, .inl (cI, 576, .inl vf))]) [0, 1, 3] rfl
          have hKc := hK.sub (tys' := [(cI, .int)]) [0] rfl
          refine vp_callSi (W.runV (As := [.int (nI tr), .int (nI (bsK tr + x.1)), .int (nI un)]) (rest := []) ⟨hx, hb, hml, hown, htb⟩ (q_MO_child l dC dI y lim rm li a_size a_kind a_level a_at a_len a_nameAt a_nameLen a_num a_pool a_draft a_open a_word a_list a_next a_result a_twin a_came a_closer i_pooled (nI L.length) (nI a) i_code i_opened i_heldAt i_heldLen lt lk bd gi i_listed fo (nI tr) i_results fu i_working i_seen i_wanted i_got cI sf vf tr w0 x.1 l1 nm1 k1 num1 rt1 (ksN x.2) (ksR x.2) e1 un (by omega) hsf (by omega) hlv hs2 hw2 (ksN_len x.2) hws (by omega)) (cwV 3 htb (g_V (fun _ h => h) m_1437 m_1434 m_1436 m_1682 m_9) rfl rfl rfl (by decide +kernel) ⟨Nat.le_of_ble_eq_true rfl, Nat.le_of_ble_eq_true rfl⟩) ⟨fun a U g mk q => by obtain ⟨q0, qP, qK⟩ := q; exact ⟨q0, qP, va_K.moved (u := U) (U := U.calling g mk a) (Vm.Alike.refl U.vm) qK⟩, va_recv hKc hPc (ci := 12) rfl (q0 := 0) rfl, fun U hU hW => ⟨rfl, by rw [hU]; exact hPc, va_K.moved hW.alike hKc⟩⟩ rfl rfl hl.1 rfl (lv_room (Nat.le_of_ble_eq_true rfl)) d_MO_element_34 ⟨Nat.le_of_ble_eq_true rfl, Nat.le_of_ble_eq_true rfl⟩) (fun r23 hw24 => ?_)
          replace hw24 : r23 = nI (bsK tr + (x.1 + 1 + slen ((ksR x.2).take un))) := hw24
          clear hPc hKc
          exact W.iret (v := r23) hx hb hr (fun t ht hW => ⟨r23, rfl, by rw [hw24]; show _ = rwI (bsK tr) (if hdK x.2 = 5 ∧ (0 : Int) ≤ ((un : Nat) : Int) ∧ ((un : Nat) : Int) < (ksR x.2).length then some (kidL x ((un : Nat) : Int).toNat) else none); rw [if_pos ⟨hk1x.trans h1, by omega, by omega⟩]; rfl, ht⟩) (fun q h => absurd h List.not_mem_nil) d_MO_element_37
        · have h3 : ¬ un < (ksR x.2).length := fun h => h3 (hvn ▸ (nI_ltI (by omega) (by omega)).mpr h)
          refine lv_iconst (v := (-1)) hx hb d_MO_element_28 (by decide) ?_
          exact W.iret (v := (-1)) hx hb hr (fun t ht hW => ⟨(-1), rfl, by show (-1 : Int32) = rwI (bsK tr) (if hdK x.2 = 5 ∧ (0 : Int) ≤ ((un : Nat) : Int) ∧ ((un : Nat) : Int) < (ksR x.2).length then some (kidL x ((un : Nat) : Int).toNat) else none); rw [if_neg (by omega)]; rfl, ht⟩) (fun q h => absurd h List.not_mem_nil) d_MO_element_29
set_option maxHeartbeats 1000000 in
set_option maxRecDepth 100000 in
/-- ordered(row) -/
theorem q_MO_ordered (l : Launch) (dC : Nat → ClassId) (dI : Nat → Nat → Nat) (y : Nat) (lim : Int32) (rm : Int32) (a_size : Nat) (a_kind : Nat) (a_level : Nat) (a_at : Nat) (a_len : Nat) (a_nameAt : Nat) (a_nameLen : Nat) (a_num : Nat) (a_pool : Nat) (a_draft : Nat) (a_open : Nat) (a_word : Nat) (a_list : Nat) (a_next : Nat) (a_result : Nat) (a_twin : Nat) (a_came : Nat) (a_closer : Nat) (i_pooled : Int32) (i_code : Int32) (i_opened : Int32) (i_heldAt : Int32) (i_heldLen : Int32) (i_listed : Int32) (i_results : Int32) (i_working : Int32) (i_seen : Int32) (i_wanted : Int32) (i_got : Int32) (cC : ClassId) (cI : ClassId) (cL : ClassId) (f : Nat → Int32) (L : List Nat) (a : Nat) (li : Int64) (tr : Nat) (bd : Int32) (gi : Int32) (lk : Int32) (fo : Int32) (fu : Int32) (kf : Nat → Int32) (vf : Nat → Int32) (af : Nat → Int32) (lf : Nat → Int32) (xf : Nat → Int32) (nf : Nat → Int32) (uf : Nat → Int64) (pf : Nat → Int32) (pn : Nat) (wf : Nat → Int32) (rr : Nat) (pq : Nat) (tx : List Nat) (t8 : List Nat) (hrr : rr < 576) (hra : af rr = nI pq) (hrl : lf rr = nI tx.length) (hpt : TXP pf pn pq tx) (hpn : pn ≤ 8400) (hwz : WRD t8 wf) (ht8 : t8.length ≤ 160) (htc : ∀ c ∈ t8, c < 128) : Met l y_MO_ordered ws_MO_ordered ({ frames := 0, cells := 0, slots := 0, locals := 0 }) (va_Pc [.ref y, .int (nI rr)] (fun U => va_P (dC, dI) vwCl [(y, .inr (12, [.int lim, .int rm, .ref a_size, .ref a_kind, .ref a_level, .ref a_at, .ref a_len, .ref a_nameAt, .ref a_nameLen, .ref a_num, .ref a_pool, .int i_pooled, .ref a_draft, .int (nI L.length), .int (nI a), .int i_code, .ref a_open, .int i_opened, .int i_heldAt, .int i_heldLen, .ref a_word, .int (nI t8.length), .int lk, .int bd, .int gi, .long li, .ref a_list, .ref a_next, .ref a_result, .int i_listed, .int fo, .int (nI tr), .int i_results, .int fu, .int i_working, .ref a_twin, .int i_seen, .int i_wanted, .int i_got, .ref a_came, .ref a_closer])), (a_len, .inl (cI, 576, .inl lf)), (a_at, .inl (cI, 576, .inl af)), (a_pool, .inl (cC, 8400, .inl pf)), (a_word, .inl (cC, 160, .inl wf))] U.heap ∧ va_K (dC, dI) vwCl [(cI, .int), (cC, .char)] U)) (vp_Si (fun (r : Int32) => r = ordI tx t8)) 0 0 (fun _ => False) := by
  refine Met.ofW (cc := c_MO_ordered) (maxL := 3) (ret := (some .int)) (by decide) rfl ?_
  intro p e s m args below meth c s₁ B hml hv
  obtain ⟨hargs, hP, hK⟩ := hv
  rw [show entryFrame m args 3 = entryFrame m ([.ref y, .int (nI rr)]).toArray 3 by rw [hargs]]
  have hx := B.exec
  have hb := B.bytes
  have hr := B.returns
  have hts := atoms_spec (ws := ws_MO_ordered) B.pre
  have htb := fun w (h : w ∈ TBL) => hts w (List.mem_cons_of_mem _ h)
  have hown : s.vm.findClass R_MO = some m.cls := findClass_of_methodNamed B.named
  have hlocks := B.notSynchronized
  have hl := lv_entry ([.ref y, .int (nI rr)]) (n := 3) (Nat.le_of_ble_eq_true rfl)
  rw [lg_entry_eq]
  generalize (lg_sl ([.ref y, .int (nI rr)]) ++ List.replicate (3 - (lg_sl ([.ref y, .int (nI rr)])).length) Slot.unset).toArray = ls at hl ⊢
  replace hl : lv_has ls 3 [(0, .ref y), (1, .int (nI rr))] := hl
  refine zz_nQ (fun Q hQ => ?_)
  have hp1 := hpt.1
  refine lv_iconst (v := 0) hx hb d_MO_ordered_0 (by decide) ?_
  refine lv_istore_n hx hb d_MO_ordered_1 rfl hl (by decide) rfl (fun ls hl => ?_)
  replace hl : lv_has ls 3 [(2, .int 0), (0, .ref y), (1, .int (nI rr))] := hl
  have hloop : ∀ (k9 : Nat) (n1 : Nat) (ls : Array Slot), tx.length - n1 = k9 → (n1 ≤ tx.length) → (n1 ≤ t8.length) → (∀ j, j < n1 → tx.getD j 0 = t8.getD j 0) → lv_has ls 3 [(2, .int (nI n1)), (0, .ref y), (1, .int (nI rr))] → W p l e (headSpec ws_MO_ordered ({ frames := 0, cells := 0, slots := 0, locals := 0 })).room s m args below meth c s.heap [] 0 0 Q (F0 m 2 ls []) := by
    intro k9
    induction k9 using Nat.strongRecOn with
    | ind k9 ih =>
      intro n1 ls hk9 hn1 hn2 heq hl
      refine lv_iload_n hx hb d_MO_ordered_2 rfl (lv_at hl 0 rfl) ?_
      refine lv_aload_n hx hb d_MO_ordered_3 rfl (lv_at hl 1 rfl) ?_
      refine va_get (D := (dC, dI)) (ci := 12) (v := .ref a_len) (C := R_MO) (T := T_MO) (N := 41) hx hb htb in_MO hown hK hP 0 rfl rfl 6 (by decide) (htb _ m_1145) (fun _ h9 => h9) rfl d_MO_ordered_4 ?_
      refine lv_iload_n hx hb d_MO_ordered_7 rfl (lv_at hl 2 rfl) ?_
      refine va_iald hx hb hK hP 1 0 rfl rfl (vp_in_nI (by omega) (by omega)) d_MO_ordered_8 ?_
      refine W.eq (congrArg (fun z => F0 m 9 ls (.int z :: [.int (nI n1)])) (by rw [nI_clamp (by omega)]; exact hrl : (lf (nI rr).toNatClampNeg) = nI tx.length)) ?_
      refine lv_icmp_ge (tgt := 48) hx hb d_MO_ordered_9 rfl (fun h1 => ?_) (fun h1 => ?_)
      · have h1 : n1 = tx.length := by have := (nI_leI (by omega) (by omega)).mp h1; omega
        refine lv_iload_n hx hb d_MO_ordered_48 rfl (lv_at hl 0 rfl) ?_
        refine lv_aload_n hx hb d_MO_ordered_49 rfl (lv_at hl 1 rfl) ?_
        refine va_get (D := (dC, dI)) (ci := 12) (v := .ref a_len) (C := R_MO) (T := T_MO) (N := 41) hx hb htb in_MO hown hK hP 0 rfl rfl 6 (by decide) (htb _ m_1145) (fun _ h9 => h9) rfl d_MO_ordered_50 ?_
        refine lv_iload_n hx hb d_MO_ordered_53 rfl (lv_at hl 2 rfl) ?_
        refine va_iald hx hb hK hP 1 0 rfl rfl (vp_in_nI (by omega) (by omega)) d_MO_ordered_54 ?_
        refine W.eq (congrArg (fun z => F0 m 55 ls (.int z :: [.int (nI n1)])) (by rw [nI_clamp (by omega)]; exact hrl : (lf (nI rr).toNatClampNeg) = nI tx.length)) ?_
        refine lv_icmp_eq (tgt := 66) hx hb d_MO_ordered_55 rfl (fun _ => ?_) (fun h9 => absurd (by rw [h1]) h9)
        refine lv_aload_n hx hb d_MO_ordered_66 rfl (lv_at hl 1 rfl) ?_
        refine va_get (D := (dC, dI)) (ci := 12) (v := .ref a_len) (C := R_MO) (T := T_MO) (N := 41) hx hb htb in_MO hown hK hP 0 rfl rfl 6 (by decide) (htb _ m_1145) (fun _ h9 => h9) rfl d_MO_ordered_67 ?_
        refine lv_iload_n hx hb d_MO_ordered_70 rfl (lv_at hl 2 rfl) ?_
        refine va_iald hx hb hK hP 1 0 rfl rfl (vp_in_nI (by omega) (by omega)) d_MO_ordered_71 ?_
        refine W.eq (congrArg (fun z => F0 m 72 ls (.int z :: [])) (by rw [nI_clamp (by omega)]; exact hrl : (lf (nI rr).toNatClampNeg) = nI tx.length)) ?_
        refine lv_aload_n hx hb d_MO_ordered_72 rfl (lv_at hl 1 rfl) ?_
        refine va_get (D := (dC, dI)) (ci := 12) (v := .int (nI t8.length)) (C := R_MO) (T := T_MO) (N := 41) hx hb htb in_MO hown hK hP 0 rfl rfl 21 (by decide) (htb _ m_1160) (fun _ h9 => h9) rfl d_MO_ordered_73 ?_
        refine lv_icmp_ge (tgt := 83) hx hb d_MO_ordered_76 rfl (fun h8 => ?_) (fun h8 => ?_)
        · have h8 : t8.length ≤ tx.length := (nI_leI (by omega) (by omega)).mp h8
          refine lv_aload_n hx hb d_MO_ordered_83 rfl (lv_at hl 1 rfl) ?_
          refine va_get (D := (dC, dI)) (ci := 12) (v := .ref a_len) (C := R_MO) (T := T_MO) (N := 41) hx hb htb in_MO hown hK hP 0 rfl rfl 6 (by decide) (htb _ m_1145) (fun _ h9 => h9) rfl d_MO_ordered_84 ?_
          refine lv_iload_n hx hb d_MO_ordered_87 rfl (lv_at hl 2 rfl) ?_
          refine va_iald hx hb hK hP 1 0 rfl rfl (vp_in_nI (by omega) (by omega)) d_MO_ordered_88 ?_
          refine W.eq (congrArg (fun z => F0 m 89 ls (.int z :: [])) (by rw [nI_clamp (by omega)]; exact hrl : (lf (nI rr).toNatClampNeg) = nI tx.length)) ?_
          refine lv_aload_n hx hb d_MO_ordered_89 rfl (lv_at hl 1 rfl) ?_
          refine va_get (D := (dC, dI)) (ci := 12) (v := .int (nI t8.length)) (C := R_MO) (T := T_MO) (N := 41) hx hb htb in_MO hown hK hP 0 rfl rfl 21 (by decide) (htb _ m_1160) (fun _ h9 => h9) rfl d_MO_ordered_90 ?_
          refine lv_icmp_le (tgt := 100) hx hb d_MO_ordered_93 rfl (fun h9 => ?_) (fun h9 => ?_)
          · have h9 : tx.length ≤ t8.length := (nI_leI (by omega) (by omega)).mp h9
            refine lv_iconst (v := 0) hx hb d_MO_ordered_100 (by decide) ?_
            rw [hQ]
            exact W.iret (v := 0) hx hb hr (fun t ht hW => ⟨0, rfl, Eq.symm ((ord_end1 hn2 h1 heq).trans (if_neg (by omega))), ht⟩) (fun q h => absurd h List.not_mem_nil) d_MO_ordered_101
          · have h9 : ¬ tx.length ≤ t8.length := fun h => h9 ((nI_leI (by omega) (by omega)).mpr h)
            refine lv_iconst (v := 1) hx hb d_MO_ordered_96 (by decide) ?_
            refine lv_goto (tgt := 101) hx hb d_MO_ordered_97 rfl ?_
            rw [hQ]
            exact W.iret (v := 1) hx hb hr (fun t ht hW => ⟨1, rfl, Eq.symm (absurd hn2 (by omega)), ht⟩) (fun q h => absurd h List.not_mem_nil) d_MO_ordered_101
        · have h8 : ¬ t8.length ≤ tx.length := fun h => h8 ((nI_leI (by omega) (by omega)).mpr h)
          refine lv_iconst (v := (-1)) hx hb d_MO_ordered_79 (by decide) ?_
          refine lv_goto (tgt := 101) hx hb d_MO_ordered_80 rfl ?_
          rw [hQ]
          exact W.iret (v := (-1)) hx hb hr (fun t ht hW => ⟨(-1), rfl, Eq.symm ((ord_end1 hn2 h1 heq).trans (if_pos (by omega))), ht⟩) (fun q h => absurd h List.not_mem_nil) d_MO_ordered_101
      · have h1 : n1 < tx.length := Nat.not_le.mp (fun h => h1 ((nI_leI (by omega) (by omega)).mpr h))
        refine lv_iload_n hx hb d_MO_ordered_12 rfl (lv_at hl 0 rfl) ?_
        refine lv_aload_n hx hb d_MO_ordered_13 rfl (lv_at hl 1 rfl) ?_
        refine va_get (D := (dC, dI)) (ci := 12) (v := .int (nI t8.length)) (C := R_MO) (T := T_MO) (N := 41) hx hb htb in_MO hown hK hP 0 rfl rfl 21 (by decide) (htb _ m_1160) (fun _ h9 => h9) rfl d_MO_ordered_14 ?_
        refine lv_icmp_ge (tgt := 48) hx hb d_MO_ordered_17 rfl (fun h2 => ?_) (fun h2 => ?_)
        · have h2 : n1 = t8.length := by have := (nI_leI (by omega) (by omega)).mp h2; omega
          refine lv_iload_n hx hb d_MO_ordered_48 rfl (lv_at hl 0 rfl) ?_
          refine lv_aload_n hx hb d_MO_ordered_49 rfl (lv_at hl 1 rfl) ?_
          refine va_get (D := (dC, dI)) (ci := 12) (v := .ref a_len) (C := R_MO) (T := T_MO) (N := 41) hx hb htb in_MO hown hK hP 0 rfl rfl 6 (by decide) (htb _ m_1145) (fun _ h9 => h9) rfl d_MO_ordered_50 ?_
          refine lv_iload_n hx hb d_MO_ordered_53 rfl (lv_at hl 2 rfl) ?_
          refine va_iald hx hb hK hP 1 0 rfl rfl (vp_in_nI (by omega) (by omega)) d_MO_ordered_54 ?_
          refine W.eq (congrArg (fun z => F0 m 55 ls (.int z :: [.int (nI n1)])) (by rw [nI_clamp (by omega)]; exact hrl : (lf (nI rr).toNatClampNeg) = nI tx.length)) ?_
          refine lv_icmp_eq (tgt := 66) hx hb d_MO_ordered_55 rfl (fun h9 => absurd h9 (fun h => absurd ((nI_eq (by omega) (by omega)).mp h) (by omega))) (fun _ => ?_)
          refine lv_iload_n hx hb d_MO_ordered_58 rfl (lv_at hl 0 rfl) ?_
          refine lv_aload_n hx hb d_MO_ordered_59 rfl (lv_at hl 1 rfl) ?_
          refine va_get (D := (dC, dI)) (ci := 12) (v := .int (nI t8.length)) (C := R_MO) (T := T_MO) (N := 41) hx hb htb in_MO hown hK hP 0 rfl rfl 21 (by decide) (htb _ m_1160) (fun _ h9 => h9) rfl d_MO_ordered_60 ?_
          refine lv_icmp_ne (tgt := 102) hx hb d_MO_ordered_63 rfl (fun h9 => absurd (by rw [h2]) h9) (fun _ => ?_)
          refine lv_aload_n hx hb d_MO_ordered_66 rfl (lv_at hl 1 rfl) ?_
          refine va_get (D := (dC, dI)) (ci := 12) (v := .ref a_len) (C := R_MO) (T := T_MO) (N := 41) hx hb htb in_MO hown hK hP 0 rfl rfl 6 (by decide) (htb _ m_1145) (fun _ h9 => h9) rfl d_MO_ordered_67 ?_
          refine lv_iload_n hx hb d_MO_ordered_70 rfl (lv_at hl 2 rfl) ?_
          refine va_iald hx hb hK hP 1 0 rfl rfl (vp_in_nI (by omega) (by omega)) d_MO_ordered_71 ?_
          refine W.eq (congrArg (fun z => F0 m 72 ls (.int z :: [])) (by rw [nI_clamp (by omega)]; exact hrl : (lf (nI rr).toNatClampNeg) = nI tx.length)) ?_
          refine lv_aload_n hx hb d_MO_ordered_72 rfl (lv_at hl 1 rfl) ?_
          refine va_get (D := (dC, dI)) (ci := 12) (v := .int (nI t8.length)) (C := R_MO) (T := T_MO) (N := 41) hx hb htb in_MO hown hK hP 0 rfl rfl 21 (by decide) (htb _ m_1160) (fun _ h9 => h9) rfl d_MO_ordered_73 ?_
          refine lv_icmp_ge (tgt := 83) hx hb d_MO_ordered_76 rfl (fun h8 => ?_) (fun h8 => ?_)
          · have h8 : t8.length ≤ tx.length := (nI_leI (by omega) (by omega)).mp h8
            refine lv_aload_n hx hb d_MO_ordered_83 rfl (lv_at hl 1 rfl) ?_
            refine va_get (D := (dC, dI)) (ci := 12) (v := .ref a_len) (C := R_MO) (T := T_MO) (N := 41) hx hb htb in_MO hown hK hP 0 rfl rfl 6 (by decide) (htb _ m_1145) (fun _ h9 => h9) rfl d_MO_ordered_84 ?_
            refine lv_iload_n hx hb d_MO_ordered_87 rfl (lv_at hl 2 rfl) ?_
            refine va_iald hx hb hK hP 1 0 rfl rfl (vp_in_nI (by omega) (by omega)) d_MO_ordered_88 ?_
            refine W.eq (congrArg (fun z => F0 m 89 ls (.int z :: [])) (by rw [nI_clamp (by omega)]; exact hrl : (lf (nI rr).toNatClampNeg) = nI tx.length)) ?_
            refine lv_aload_n hx hb d_MO_ordered_89 rfl (lv_at hl 1 rfl) ?_
            refine va_get (D := (dC, dI)) (ci := 12) (v := .int (nI t8.length)) (C := R_MO) (T := T_MO) (N := 41) hx hb htb in_MO hown hK hP 0 rfl rfl 21 (by decide) (htb _ m_1160) (fun _ h9 => h9) rfl d_MO_ordered_90 ?_
            refine lv_icmp_le (tgt := 100) hx hb d_MO_ordered_93 rfl (fun h9 => ?_) (fun h9 => ?_)
            · have h9 : tx.length ≤ t8.length := (nI_leI (by omega) (by omega)).mp h9
              refine lv_iconst (v := 0) hx hb d_MO_ordered_100 (by decide) ?_
              rw [hQ]
              exact W.iret (v := 0) hx hb hr (fun t ht hW => ⟨0, rfl, Eq.symm (absurd h9 (by omega)), ht⟩) (fun q h => absurd h List.not_mem_nil) d_MO_ordered_101
            · have h9 : ¬ tx.length ≤ t8.length := fun h => h9 ((nI_leI (by omega) (by omega)).mpr h)
              refine lv_iconst (v := 1) hx hb d_MO_ordered_96 (by decide) ?_
              refine lv_goto (tgt := 101) hx hb d_MO_ordered_97 rfl ?_
              rw [hQ]
              exact W.iret (v := 1) hx hb hr (fun t ht hW => ⟨1, rfl, Eq.symm (ord_end2 h1 h2 heq), ht⟩) (fun q h => absurd h List.not_mem_nil) d_MO_ordered_101
          · have h8 : ¬ t8.length ≤ tx.length := fun h => h8 ((nI_leI (by omega) (by omega)).mpr h)
            refine lv_iconst (v := (-1)) hx hb d_MO_ordered_79 (by decide) ?_
            refine lv_goto (tgt := 101) hx hb d_MO_ordered_80 rfl ?_
            rw [hQ]
            exact W.iret (v := (-1)) hx hb hr (fun t ht hW => ⟨(-1), rfl, Eq.symm (absurd h8 (by omega)), ht⟩) (fun q h => absurd h List.not_mem_nil) d_MO_ordered_101
        · have h2 : n1 < t8.length := Nat.not_le.mp (fun h => h2 ((nI_leI (by omega) (by omega)).mpr h))
          have hc1 : tx.getD n1 0 < 128 := by rw [List.getD_eq_getElem?_getD, List.getElem?_eq_getElem h1]; exact hpt.2.1 _ (List.getElem_mem h1)
          have hc2 : t8.getD n1 0 < 128 := by rw [List.getD_eq_getElem?_getD, List.getElem?_eq_getElem h2]; exact htc _ (List.getElem_mem h2)
          refine lv_aload_n hx hb d_MO_ordered_20 rfl (lv_at hl 1 rfl) ?_
          refine va_get (D := (dC, dI)) (ci := 12) (v := .ref a_pool) (C := R_MO) (T := T_MO) (N := 41) hx hb htb in_MO hown hK hP 0 rfl rfl 10 (by decide) (htb _ m_1149) (fun _ h9 => h9) rfl d_MO_ordered_21 ?_
          refine lv_aload_n hx hb d_MO_ordered_24 rfl (lv_at hl 1 rfl) ?_
          refine va_get (D := (dC, dI)) (ci := 12) (v := .ref a_at) (C := R_MO) (T := T_MO) (N := 41) hx hb htb in_MO hown hK hP 0 rfl rfl 5 (by decide) (htb _ m_1144) (fun _ h9 => h9) rfl d_MO_ordered_25 ?_
          refine lv_iload_n hx hb d_MO_ordered_28 rfl (lv_at hl 2 rfl) ?_
          refine va_iald hx hb hK hP 2 0 rfl rfl (vp_in_nI (by omega) (by omega)) d_MO_ordered_29 ?_
          refine W.eq (congrArg (fun z => F0 m 30 ls (.int z :: [.ref a_pool])) (by rw [nI_clamp (by omega)]; exact hra : (af (nI rr).toNatClampNeg) = nI pq)) ?_
          refine lv_iload_n hx hb d_MO_ordered_30 rfl (lv_at hl 0 rfl) ?_
          refine lv_iadd hx hb d_MO_ordered_31 ?_
          refine W.eq (congrArg (fun z => F0 m 32 ls (.int z :: [.ref a_pool])) (nI_add _ _ : ((nI pq) + (nI n1)) = nI (pq + n1))) ?_
          refine va_cald hx hb hK hP 3 1 rfl rfl (vp_in_nI (by omega) (by omega)) d_MO_ordered_32 ?_
          refine W.eq (congrArg (fun z => F0 m 33 ls (.int z :: [])) (by rw [nI_clamp (by omega)]; exact hpt.2.2 n1 (by omega) : (pf (nI (pq + n1)).toNatClampNeg) = nI (tx.getD n1 0))) ?_
          refine lv_aload_n hx hb d_MO_ordered_33 rfl (lv_at hl 1 rfl) ?_
          refine va_get (D := (dC, dI)) (ci := 12) (v := .ref a_word) (C := R_MO) (T := T_MO) (N := 41) hx hb htb in_MO hown hK hP 0 rfl rfl 20 (by decide) (htb _ m_1159) (fun _ h9 => h9) rfl d_MO_ordered_34 ?_
          refine lv_iload_n hx hb d_MO_ordered_37 rfl (lv_at hl 0 rfl) ?_
          refine va_cald hx hb hK hP 4 1 rfl rfl (vp_in_nI (by omega) (by omega)) d_MO_ordered_38 ?_
          refine W.eq (congrArg (fun z => F0 m 39 ls (.int z :: [.int (nI (tx.getD n1 0))])) (by rw [nI_clamp (by omega)]; exact hwz n1 (by omega) : (wf (nI n1).toNatClampNeg) = nI (t8.getD n1 0))) ?_
          refine lv_icmp_ne (tgt := 48) hx hb d_MO_ordered_39 rfl (fun h3 => ?_) (fun h3 => ?_)
          · have h3 : ¬ tx.getD n1 0 = t8.getD n1 0 := fun h => h3 (by rw [h])
            refine lv_iload_n hx hb d_MO_ordered_48 rfl (lv_at hl 0 rfl) ?_
            refine lv_aload_n hx hb d_MO_ordered_49 rfl (lv_at hl 1 rfl) ?_
            refine va_get (D := (dC, dI)) (ci := 12) (v := .ref a_len) (C := R_MO) (T := T_MO) (N := 41) hx hb htb in_MO hown hK hP 0 rfl rfl 6 (by decide) (htb _ m_1145) (fun _ h9 => h9) rfl d_MO_ordered_50 ?_
            refine lv_iload_n hx hb d_MO_ordered_53 rfl (lv_at hl 2 rfl) ?_
            refine va_iald hx hb hK hP 1 0 rfl rfl (vp_in_nI (by omega) (by omega)) d_MO_ordered_54 ?_
            refine W.eq (congrArg (fun z => F0 m 55 ls (.int z :: [.int (nI n1)])) (by rw [nI_clamp (by omega)]; exact hrl : (lf (nI rr).toNatClampNeg) = nI tx.length)) ?_
            refine lv_icmp_eq (tgt := 66) hx hb d_MO_ordered_55 rfl (fun h9 => absurd h9 (fun h => absurd ((nI_eq (by omega) (by omega)).mp h) (by omega))) (fun _ => ?_)
            refine lv_iload_n hx hb d_MO_ordered_58 rfl (lv_at hl 0 rfl) ?_
            refine lv_aload_n hx hb d_MO_ordered_59 rfl (lv_at hl 1 rfl) ?_
            refine va_get (D := (dC, dI)) (ci := 12) (v := .int (nI t8.length)) (C := R_MO) (T := T_MO) (N := 41) hx hb htb in_MO hown hK hP 0 rfl rfl 21 (by decide) (htb _ m_1160) (fun _ h9 => h9) rfl d_MO_ordered_60 ?_
            refine lv_icmp_ne (tgt := 102) hx hb d_MO_ordered_63 rfl (fun _ => ?_) (fun h9 => absurd h9 (fun h => absurd ((nI_eq (by omega) (by omega)).mp h) (by omega)))
            refine lv_aload_n hx hb d_MO_ordered_102 rfl (lv_at hl 1 rfl) ?_
            refine va_get (D := (dC, dI)) (ci := 12) (v := .ref a_pool) (C := R_MO) (T := T_MO) (N := 41) hx hb htb in_MO hown hK hP 0 rfl rfl 10 (by decide) (htb _ m_1149) (fun _ h9 => h9) rfl d_MO_ordered_103 ?_
            refine lv_aload_n hx hb d_MO_ordered_106 rfl (lv_at hl 1 rfl) ?_
            refine va_get (D := (dC, dI)) (ci := 12) (v := .ref a_at) (C := R_MO) (T := T_MO) (N := 41) hx hb htb in_MO hown hK hP 0 rfl rfl 5 (by decide) (htb _ m_1144) (fun _ h9 => h9) rfl d_MO_ordered_107 ?_
            refine lv_iload_n hx hb d_MO_ordered_110 rfl (lv_at hl 2 rfl) ?_
            refine va_iald hx hb hK hP 2 0 rfl rfl (vp_in_nI (by omega) (by omega)) d_MO_ordered_111 ?_
            refine W.eq (congrArg (fun z => F0 m 112 ls (.int z :: [.ref a_pool])) (by rw [nI_clamp (by omega)]; exact hra : (af (nI rr).toNatClampNeg) = nI pq)) ?_
            refine lv_iload_n hx hb d_MO_ordered_112 rfl (lv_at hl 0 rfl) ?_
            refine lv_iadd hx hb d_MO_ordered_113 ?_
            refine W.eq (congrArg (fun z => F0 m 114 ls (.int z :: [.ref a_pool])) (nI_add _ _ : ((nI pq) + (nI n1)) = nI (pq + n1))) ?_
            refine va_cald hx hb hK hP 3 1 rfl rfl (vp_in_nI (by omega) (by omega)) d_MO_ordered_114 ?_
            refine W.eq (congrArg (fun z => F0 m 115 ls (.int z :: [])) (by rw [nI_clamp (by omega)]; exact hpt.2.2 n1 (by omega) : (pf (nI (pq + n1)).toNatClampNeg) = nI (tx.getD n1 0))) ?_
            refine lv_aload_n hx hb d_MO_ordered_115 rfl (lv_at hl 1 rfl) ?_
            refine va_get (D := (dC, dI)) (ci := 12) (v := .ref a_word) (C := R_MO) (T := T_MO) (N := 41) hx hb htb in_MO hown hK hP 0 rfl rfl 20 (by decide) (htb _ m_1159) (fun _ h9 => h9) rfl d_MO_ordered_116 ?_
            refine lv_iload_n hx hb d_MO_ordered_119 rfl (lv_at hl 0 rfl) ?_
            refine va_cald hx hb hK hP 4 1 rfl rfl (vp_in_nI (by omega) (by omega)) d_MO_ordered_120 ?_
            refine W.eq (congrArg (fun z => F0 m 121 ls (.int z :: [.int (nI (tx.getD n1 0))])) (by rw [nI_clamp (by omega)]; exact hwz n1 (by omega) : (wf (nI n1).toNatClampNeg) = nI (t8.getD n1 0))) ?_
            refine lv_icmp_ge (tgt := 128) hx hb d_MO_ordered_121 rfl (fun h4 => ?_) (fun h4 => ?_)
            · have h4 : ¬ tx.getD n1 0 < t8.getD n1 0 := by have := (nI_leI (by omega) (by omega)).mp h4; omega
              refine lv_iconst (v := 1) hx hb d_MO_ordered_128 (by decide) ?_
              rw [hQ]
              exact W.iret (v := 1) hx hb hr (fun t ht hW => ⟨1, rfl, ((ord_ne h1 h2 heq h3).trans (if_neg h4)).symm, ht⟩) (fun q h => absurd h List.not_mem_nil) d_MO_ordered_129
            · have h4 : tx.getD n1 0 < t8.getD n1 0 := Nat.not_le.mp (fun h => h4 ((nI_leI (by omega) (by omega)).mpr h))
              refine lv_iconst (v := (-1)) hx hb d_MO_ordered_124 (by decide) ?_
              refine lv_goto (tgt := 129) hx hb d_MO_ordered_125 rfl ?_
              rw [hQ]
              exact W.iret (v := (-1)) hx hb hr (fun t ht hW => ⟨(-1), rfl, ((ord_ne h1 h2 heq h3).trans (if_pos h4)).symm, ht⟩) (fun q h => absurd h List.not_mem_nil) d_MO_ordered_129
          · have h3 : tx.getD n1 0 = t8.getD n1 0 := (nI_eq (by omega) (by omega)).mp h3
            refine lv_iinc (k := 0) (v := ((nI n1) + Int32.ofInt 1)) hx hb d_MO_ordered_42 hl rfl rfl (by decide) rfl (fun ls hl => ?_)
            replace hl : lv_has ls 3 [(2, .int ((nI n1) + Int32.ofInt 1)), (0, .ref y), (1, .int (nI rr))] := hl
            rw [show nI n1 + Int32.ofInt 1 = nI (n1 + 1) from nI_1 _] at hl
            refine lv_goto (tgt := 2) hx hb d_MO_ordered_45 rfl ?_
            exact ih (tx.length - (n1 + 1)) (by omega) (n1 + 1) ls rfl (by omega) (by omega) (fun j hj => by rcases Nat.lt_succ_iff_lt_or_eq.mp hj with h9 | rfl; exact heq j h9; exact h3) (lv_sub hl [0, 1, 2] rfl)
  exact hloop _ 0 ls rfl (Nat.zero_le _) (Nat.zero_le _) (fun j hj => absurd hj (Nat.not_lt_zero _)) (lv_sub hl [0, 1, 2] rfl)
