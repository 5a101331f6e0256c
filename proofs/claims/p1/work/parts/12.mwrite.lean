set_option maxHeartbeats 1000000 in
set_option maxRecDepth 100000 in
theorem lp_MO_write1 {p : Program} {l : Launch} {e : Env} {R : Room} {s : State} {m : MethodId} {args : Array Value} {below : List Frame} {meth : Method} {c : Code} {cells slots : Nat} {Q : State → Prop} {dC : Nat → ClassId} {dI : Nat → Nat → Nat} {A : Nat → Prop} {H0 : Heap} {y : Nat} {w : Int64} (hx : p.tables.exec = Jvm.exec) (hb : c.code = c_MO_write) (hown : s.vm.findClass R_MO = some m.cls) (htb : ∀ w ∈ TBL, w.before args s = true) {H : Heap} {locs : List Loc}
    (hend : ∀ (ls : Array Slot), lv_has ls 6 [(3, .int (nI (wr_n w 8))), (0, .ref y), (1, .long w)] → (∀ j, j < 8 → wr_good (wr_b w j)) → W p l e R s m args below meth c H locs cells slots Q (F0 m 66 ls []))
    (hno : ∀ (ls : Array Slot), (¬ ∀ j, j < 8 → wr_good (wr_b w j)) → W p l e R s m args below meth c H locs cells slots Q (F0 m 41 ls [])) :
    ∀ (k j : Nat), j + k = 8 → ∀ (ls : Array Slot), lv_has ls 6 [(4, .int (wr_sh j)), (3, .int (nI (wr_n w j))), (0, .ref y), (1, .long w)] → (∀ i, i < j → wr_good (wr_b w i)) → W p l e R s m args below meth c H locs cells slots Q (F0 m 6 ls []) := by
  intro k
  induction k with
  | zero =>
    intro j hj ls hl hg
    obtain rfl : j = 8 := by omega
    refine lv_iload hx hb d_MO_write_6 (lv_at hl 0 rfl) ?_
    refine lv_if_lt (tgt := 66) hx hb d_MO_write_8 rfl (fun _ => ?_) (fun h9 => absurd (wr_sh_8) h9)
    exact hend ls (lv_sub hl [1, 2, 3] rfl) hg
  | succ k ih =>
    intro j hj ls hl hg
    have hj8 : j < 8 := by omega
    have hbl := wr_b_lt w j
    refine lv_iload hx hb d_MO_write_6 (lv_at hl 0 rfl) ?_
    refine lv_if_lt (tgt := 66) hx hb d_MO_write_8 rfl (fun h9 => absurd h9 (wr_sh_neg j hj8)) (fun _ => ?_)
    refine lv_lload_n hx hb d_MO_write_11 rfl (lv_at hl 3 rfl) ?_
    refine lv_iload hx hb d_MO_write_12 (lv_at hl 0 rfl) ?_
    refine lv_lshr hx hb d_MO_write_14 rfl ?_
    refine lv_ldc2 (v := 255) hx hb hown (htb _ m_1269) d_MO_write_15 ?_
    refine lv_land hx hb d_MO_write_18 ?_
    refine lv_l2i hx hb d_MO_write_19 rfl ?_
    refine W.eq (congrArg (fun z => F0 m 20 ls (.int z :: [])) (wr_mod w hj8 : (((w >>> ((wr_sh j).toInt64 &&& 63)) &&& 255).toInt32) = nI (wr_b w j))) ?_
    refine lv_istore hx hb d_MO_write_20 hl (by decide) rfl (fun ls hl => ?_)
    have hl : lv_has ls 6 [(5, .int (nI (wr_b w j))), (4, .int (wr_sh j)), (3, .int (nI (wr_n w j))), (0, .ref y), (1, .long w)] := hl
    refine lv_iload hx hb d_MO_write_22 (lv_at hl 0 rfl) ?_
    refine lv_if_eq (tgt := 43) hx hb d_MO_write_24 rfl (fun h0 => ?_) (fun h0 => ?_)
    · have hz : wr_b w j = 0 := (nI_eq (by omega) (by decide)).mp (show nI (wr_b w j) = nI 0 from h0)
      have hnn : wr_n w (j + 1) = wr_n w j := by rw [wr_n_s, if_pos hz]
      have hg' : ∀ i, i < j + 1 → wr_good (wr_b w i) := fun i hi => by rcases Nat.lt_succ_iff_lt_or_eq.mp hi with h | rfl; exact hg i h; exact Or.inl hz
      refine lv_iload hx hb d_MO_write_43 (lv_at hl 0 rfl) ?_
      refine lv_if_eq (tgt := 54) hx hb d_MO_write_45 rfl (fun _ => ?_) (fun h9 => absurd (h0) h9)
      refine lv_iload_n hx hb d_MO_write_54 rfl (lv_at hl 2 rfl) ?_
      refine W.eq (congrArg (fun z => F0 m 55 ls (.int z :: [])) (by rw [hnn] : (nI (wr_n w j)) = nI (wr_n w (j + 1)))) ?_
      refine lv_istore_n hx hb d_MO_write_55 rfl hl (by decide) rfl (fun ls hl => ?_)
      have hl : lv_has ls 6 [(3, .int (nI (wr_n w (j + 1)))), (5, .int (nI (wr_b w j))), (4, .int (wr_sh j)), (0, .ref y), (1, .long w)] := hl
      refine lv_iload hx hb d_MO_write_56 (lv_at hl 2 rfl) ?_
      refine lv_bipush (v := 8) hx hb d_MO_write_58 (by decide) ?_
      refine lv_isub hx hb d_MO_write_60 ?_
      refine W.eq (congrArg (fun z => F0 m 61 ls (.int z :: [])) (wr_sh_sub j hj8 : ((wr_sh j) - 8) = wr_sh (j + 1))) ?_
      refine lv_istore hx hb d_MO_write_61 hl (by decide) rfl (fun ls hl => ?_)
      have hl : lv_has ls 6 [(4, .int (wr_sh (j + 1))), (3, .int (nI (wr_n w (j + 1)))), (5, .int (nI (wr_b w j))), (0, .ref y), (1, .long w)] := hl
      refine lv_goto (tgt := 6) hx hb d_MO_write_63 rfl ?_
      exact ih (j + 1) (by omega) ls (lv_sub hl [0, 1, 3, 4] rfl) hg'
    · have hz : wr_b w j ≠ 0 := fun h => h0 (by rw [h]; rfl)
      have hnn : wr_n w (j + 1) = wr_n w j + 1 := by rw [wr_n_s, if_neg hz]
      refine lv_iload hx hb d_MO_write_27 (lv_at hl 0 rfl) ?_
      refine lv_bipush (v := 32) hx hb d_MO_write_29 (by decide) ?_
      refine lv_icmp_lt (tgt := 41) hx hb d_MO_write_31 rfl (fun h1 => ?_) (fun h1 => ?_)
      · exact hno ls (fun h => by have h9 : nI (wr_b w j) < nI 32 := h1; have := (nI_ltI (by omega) (by decide)).mp h9; rcases h j hj8 with h | h; exact hz h; omega)
      · have hlo : 32 ≤ wr_b w j := by have h9 : ¬ nI (wr_b w j) < nI 32 := h1; have := mt (nI_ltI (by omega) (by decide)).mpr h9; omega
        refine lv_iload hx hb d_MO_write_34 (lv_at hl 0 rfl) ?_
        refine lv_bipush (v := 126) hx hb d_MO_write_36 (by decide) ?_
        refine lv_icmp_le (tgt := 43) hx hb d_MO_write_38 rfl (fun h2 => ?_) (fun h2 => ?_)
        · have hhi : wr_b w j ≤ 126 := by have h9 : nI (wr_b w j) ≤ nI 126 := h2; exact (nI_leI (by omega) (by decide)).mp h9
          have hg' : ∀ i, i < j + 1 → wr_good (wr_b w i) := fun i hi => by rcases Nat.lt_succ_iff_lt_or_eq.mp hi with h | rfl; exact hg i h; exact Or.inr ⟨hlo, hhi⟩
          refine lv_iload hx hb d_MO_write_43 (lv_at hl 0 rfl) ?_
          refine lv_if_eq (tgt := 54) hx hb d_MO_write_45 rfl (fun h9 => absurd h9 (h0)) (fun _ => ?_)
          refine lv_iload_n hx hb d_MO_write_48 rfl (lv_at hl 2 rfl) ?_
          refine lv_iconst (v := 1) hx hb d_MO_write_49 (by decide) ?_
          refine lv_iadd hx hb d_MO_write_50 ?_
          refine lv_goto (tgt := 55) hx hb d_MO_write_51 rfl ?_
          refine W.eq (congrArg (fun z => F0 m 55 ls (.int z :: [])) (by rw [hnn]; exact nI_1 _ : ((nI (wr_n w j)) + 1) = nI (wr_n w (j + 1)))) ?_
          refine lv_istore_n hx hb d_MO_write_55 rfl hl (by decide) rfl (fun ls hl => ?_)
          have hl : lv_has ls 6 [(3, .int (nI (wr_n w (j + 1)))), (5, .int (nI (wr_b w j))), (4, .int (wr_sh j)), (0, .ref y), (1, .long w)] := hl
          refine lv_iload hx hb d_MO_write_56 (lv_at hl 2 rfl) ?_
          refine lv_bipush (v := 8) hx hb d_MO_write_58 (by decide) ?_
          refine lv_isub hx hb d_MO_write_60 ?_
          refine W.eq (congrArg (fun z => F0 m 61 ls (.int z :: [])) (wr_sh_sub j hj8 : ((wr_sh j) - 8) = wr_sh (j + 1))) ?_
          refine lv_istore hx hb d_MO_write_61 hl (by decide) rfl (fun ls hl => ?_)
          have hl : lv_has ls 6 [(4, .int (wr_sh (j + 1))), (3, .int (nI (wr_n w (j + 1)))), (5, .int (nI (wr_b w j))), (0, .ref y), (1, .long w)] := hl
          refine lv_goto (tgt := 6) hx hb d_MO_write_63 rfl ?_
          exact ih (j + 1) (by omega) ls (lv_sub hl [0, 1, 3, 4] rfl) hg'
        · exact hno ls (fun h => by have h9 : ¬ nI (wr_b w j) ≤ nI 126 := h2; have := mt (nI_leI (by omega) (by decide)).mpr h9; rcases h j hj8 with h | h; exact hz h; omega)
set_option maxHeartbeats 1000000 in
set_option maxRecDepth 100000 in
theorem lp_MO_write2 {p : Program} {l : Launch} {e : Env} {R : Room} {s : State} {m : MethodId} {args : Array Value} {below : List Frame} {meth : Method} {c : Code} {cells slots : Nat} {Q : State → Prop} {dC : Nat → ClassId} {dI : Nat → Nat → Nat} {A : Nat → Prop} {H0 : Heap} {y a_size a_kind a_level a_at a_len a_nameAt a_nameLen a_num a_pool a_draft a_open a_word a_list a_next a_result a_twin a_came a_closer : Nat} {lim rm : Int32} {cD : ClassId} {w : Int64} (hx : p.tables.exec = Jvm.exec) (hb : c.code = c_MO_write) (hown : s.vm.findClass R_MO = some m.cls) (htb : ∀ w ∈ TBL, w.before args s = true) {d : Nat} {f : Nat → Int32} (hK : va_K (dC, dI) vwCl [(cD, .char)] s) (hroom : d + wr_n w 8 ≤ 160)
    (hend : ∀ (H : Heap) (locs : List Loc) (ls : Array Slot) (f' : Nat → Int32), va_P (dC, dI) vwCl [(y, .inr (12, [.int lim, .int rm, .ref a_size, .ref a_kind, .ref a_level, .ref a_at, .ref a_len, .ref a_nameAt, .ref a_nameLen, .ref a_num, .ref a_pool, .int 0, .ref a_draft, .int (nI (d + wr_n w 8)), .int 0, .int 0, .ref a_open, .int 0, .int 0, .int 0, .ref a_word, .int 0, .int 0, .int 0, .int 0, .long 0, .ref a_list, .ref a_next, .ref a_result, .int 0, .int 0, .int 0, .int 0, .int 0, .int 0, .ref a_twin, .int 0, .int 0, .int 0, .ref a_came, .ref a_closer])), (a_draft, .inl (cD, 160, .inl f'))] H → va_D A [(y, .inr (12, [.int lim, .int rm, .ref a_size, .ref a_kind, .ref a_level, .ref a_at, .ref a_len, .ref a_nameAt, .ref a_nameLen, .ref a_num, .ref a_pool, .int 0, .ref a_draft, .int (nI (d + wr_n w 8)), .int 0, .int 0, .ref a_open, .int 0, .int 0, .int 0, .ref a_word, .int 0, .int 0, .int 0, .int 0, .long 0, .ref a_list, .ref a_next, .ref a_result, .int 0, .int 0, .int 0, .int 0, .int 0, .int 0, .ref a_twin, .int 0, .int 0, .int 0, .ref a_came, .ref a_closer])), (a_draft, .inl (cD, 160, .inl f'))] → va_S A H0 H locs → (∀ i, i < d → f' i = f i) → (∀ i, i < 8 → wr_b w i ≠ 0 → f' (d + wr_n w i) = nI (wr_b w i)) → W p l e R s m args below meth c H locs cells slots Q (F0 m 137 ls [])) :
    ∀ (k j : Nat), j + k = 8 → ∀ (H : Heap) (locs : List Loc) (ls : Array Slot) (f' : Nat → Int32), lv_has ls 6 [(4, .int (wr_sh j)), (0, .ref y), (1, .long w)] → va_P (dC, dI) vwCl [(y, .inr (12, [.int lim, .int rm, .ref a_size, .ref a_kind, .ref a_level, .ref a_at, .ref a_len, .ref a_nameAt, .ref a_nameLen, .ref a_num, .ref a_pool, .int 0, .ref a_draft, .int (nI (d + wr_n w j)), .int 0, .int 0, .ref a_open, .int 0, .int 0, .int 0, .ref a_word, .int 0, .int 0, .int 0, .int 0, .long 0, .ref a_list, .ref a_next, .ref a_result, .int 0, .int 0, .int 0, .int 0, .int 0, .int 0, .ref a_twin, .int 0, .int 0, .int 0, .ref a_came, .ref a_closer])), (a_draft, .inl (cD, 160, .inl f'))] H → va_D A [(y, .inr (12, [.int lim, .int rm, .ref a_size, .ref a_kind, .ref a_level, .ref a_at, .ref a_len, .ref a_nameAt, .ref a_nameLen, .ref a_num, .ref a_pool, .int 0, .ref a_draft, .int (nI (d + wr_n w j)), .int 0, .int 0, .ref a_open, .int 0, .int 0, .int 0, .ref a_word, .int 0, .int 0, .int 0, .int 0, .long 0, .ref a_list, .ref a_next, .ref a_result, .int 0, .int 0, .int 0, .int 0, .int 0, .int 0, .ref a_twin, .int 0, .int 0, .int 0, .ref a_came, .ref a_closer])), (a_draft, .inl (cD, 160, .inl f'))] → va_S A H0 H locs → (∀ i, i < d → f' i = f i) → (∀ i, i < j → wr_b w i ≠ 0 → f' (d + wr_n w i) = nI (wr_b w i)) → W p l e R s m args below meth c H locs cells slots Q (F0 m 84 ls []) := by
  intro k
  induction k with
  | zero =>
    intro j hj H locs ls f' hl hP hD hS hf hv
    obtain rfl : j = 8 := by omega
    refine lv_iload hx hb d_MO_write_84 (lv_at hl 0 rfl) ?_
    refine lv_if_lt (tgt := 137) hx hb d_MO_write_86 rfl (fun _ => ?_) (fun h9 => absurd (wr_sh_8) h9)
    exact hend H locs ls f' hP hD hS hf hv
  | succ k ih =>
    intro j hj H locs ls f' hl hP hD hS hf hv
    have hj8 : j < 8 := by omega
    have hbl := wr_b_lt w j
    have hm8 : wr_n w (j + 1) ≤ wr_n w 8 := by have := wr_n_mono w (j + 1) k; rwa [show j + 1 + k = 8 by omega] at this
    refine lv_iload hx hb d_MO_write_84 (lv_at hl 0 rfl) ?_
    refine lv_if_lt (tgt := 137) hx hb d_MO_write_86 rfl (fun h9 => absurd h9 (wr_sh_neg j hj8)) (fun _ => ?_)
    refine lv_lload_n hx hb d_MO_write_89 rfl (lv_at hl 2 rfl) ?_
    refine lv_iload hx hb d_MO_write_90 (lv_at hl 0 rfl) ?_
    refine lv_lshr hx hb d_MO_write_92 rfl ?_
    refine lv_ldc2 (v := 255) hx hb hown (htb _ m_1269) d_MO_write_93 ?_
    refine lv_land hx hb d_MO_write_96 ?_
    refine lv_l2i hx hb d_MO_write_97 rfl ?_
    refine W.eq (congrArg (fun z => F0 m 98 ls (.int z :: [])) (wr_mod w hj8 : (((w >>> ((wr_sh j).toInt64 &&& 63)) &&& 255).toInt32) = nI (wr_b w j))) ?_
    refine lv_istore hx hb d_MO_write_98 hl (by decide) rfl (fun ls hl => ?_)
    have hl : lv_has ls 6 [(5, .int (nI (wr_b w j))), (4, .int (wr_sh j)), (0, .ref y), (1, .long w)] := hl
    refine lv_iload hx hb d_MO_write_100 (lv_at hl 0 rfl) ?_
    refine lv_if_eq (tgt := 127) hx hb d_MO_write_102 rfl (fun h0 => ?_) (fun h0 => ?_)
    · have hz : wr_b w j = 0 := (nI_eq (by omega) (by decide)).mp (show nI (wr_b w j) = nI 0 from h0)
      have hnn : wr_n w (j + 1) = wr_n w j := by rw [wr_n_s, if_pos hz]
      rw [← hnn] at hP hD
      refine lv_iload hx hb d_MO_write_127 (lv_at hl 1 rfl) ?_
      refine lv_bipush (v := 8) hx hb d_MO_write_129 (by decide) ?_
      refine lv_isub hx hb d_MO_write_131 ?_
      refine W.eq (congrArg (fun z => F0 m 132 ls (.int z :: [])) (wr_sh_sub j hj8 : ((wr_sh j) - 8) = wr_sh (j + 1))) ?_
      refine lv_istore hx hb d_MO_write_132 hl (by decide) rfl (fun ls hl => ?_)
      have hl : lv_has ls 6 [(4, .int (wr_sh (j + 1))), (5, .int (nI (wr_b w j))), (0, .ref y), (1, .long w)] := hl
      refine lv_goto (tgt := 84) hx hb d_MO_write_134 rfl ?_
      exact ih (j + 1) (by omega) H locs ls (f') (lv_sub hl [0, 2, 3] rfl) hP hD hS hf (fun i hi hi0 => by rcases Nat.lt_succ_iff_lt_or_eq.mp hi with h | rfl; exact hv i h hi0; exact absurd hz hi0)
    · have hz : wr_b w j ≠ 0 := fun h => h0 (by rw [h]; rfl)
      have hnn : wr_n w (j + 1) = wr_n w j + 1 := by rw [wr_n_s, if_neg hz]
      refine lv_aload_n hx hb d_MO_write_105 rfl (lv_at hl 2 rfl) ?_
      refine va_get (D := (dC, dI)) (ci := 12) (v := .ref a_draft) (C := R_MO) (T := T_MO) (N := 41) hx hb htb in_MO hown hK hP 0 rfl rfl 12 (by decide) (htb _ m_1151) (fun _ h9 => h9) rfl d_MO_write_106 ?_
      refine lv_aload_n hx hb d_MO_write_109 rfl (lv_at hl 2 rfl) ?_
      refine va_get (D := (dC, dI)) (ci := 12) (v := .int (nI (d + wr_n w j))) (C := R_MO) (T := T_MO) (N := 41) hx hb htb in_MO hown hK hP 0 rfl rfl 13 (by decide) (htb _ m_1152) (fun _ h9 => h9) rfl d_MO_write_110 ?_
      refine lv_iload hx hb d_MO_write_113 (lv_at hl 0 rfl) ?_
      refine lv_i2c hx hb d_MO_write_115 rfl ?_
      refine W.eq (congrArg (fun z => F0 m 116 ls (.int z :: [.int (nI (d + wr_n w j)), .ref a_draft])) ((sb_byte _ hbl).2.1 : (((nI (wr_b w j)).toUInt32 % 65536).toInt32) = nI (wr_b w j))) ?_
      refine va_cast hx hb hK hP hD hS 1 0 rfl rfl (vp_in_nI (by omega) (by decide)) d_MO_write_116 (fun H locs hP hD hS => ?_)
      rw [(by rw [nI_clamp (by omega), wr_nar _ hbl] : upd f' (nI (d + wr_n w j)).toNatClampNeg (vp_nar .char (nI (wr_b w j))) = upd f' (d + wr_n w j) (nI (wr_b w j)))] at hP hD
      have hP : va_P (dC, dI) vwCl [(y, .inr (12, [.int lim, .int rm, .ref a_size, .ref a_kind, .ref a_level, .ref a_at, .ref a_len, .ref a_nameAt, .ref a_nameLen, .ref a_num, .ref a_pool, .int 0, .ref a_draft, .int (nI (d + wr_n w j)), .int 0, .int 0, .ref a_open, .int 0, .int 0, .int 0, .ref a_word, .int 0, .int 0, .int 0, .int 0, .long 0, .ref a_list, .ref a_next, .ref a_result, .int 0, .int 0, .int 0, .int 0, .int 0, .int 0, .ref a_twin, .int 0, .int 0, .int 0, .ref a_came, .ref a_closer])), (a_draft, .inl (cD, 160, .inl (upd f' (d + wr_n w j) (nI (wr_b w j)))))] H := hP
      have hD : va_D A [(y, .inr (12, [.int lim, .int rm, .ref a_size, .ref a_kind, .ref a_level, .ref a_at, .ref a_len, .ref a_nameAt, .ref a_nameLen, .ref a_num, .ref a_pool, .int 0, .ref a_draft, .int (nI (d + wr_n w j)), .int 0, .int 0, .ref a_open, .int 0, .int 0, .int 0, .ref a_word, .int 0, .int 0, .int 0, .int 0, .long 0, .ref a_list, .ref a_next, .ref a_result, .int 0, .int 0, .int 0, .int 0, .int 0, .int 0, .ref a_twin, .int 0, .int 0, .int 0, .ref a_came, .ref a_closer])), (a_draft, .inl (cD, 160, .inl (upd f' (d + wr_n w j) (nI (wr_b w j)))))] := hD
      refine lv_aload_n hx hb d_MO_write_117 rfl (lv_at hl 2 rfl) ?_
      refine lv_dup hx hb d_MO_write_118 rfl ?_
      refine va_get (D := (dC, dI)) (ci := 12) (v := .int (nI (d + wr_n w j))) (C := R_MO) (T := T_MO) (N := 41) hx hb htb in_MO hown hK hP 0 rfl rfl 13 (by decide) (htb _ m_1152) (fun _ h9 => h9) rfl d_MO_write_119 ?_
      refine lv_iconst (v := 1) hx hb d_MO_write_122 (by decide) ?_
      refine lv_iadd hx hb d_MO_write_123 ?_
      refine W.eq (congrArg (fun z => F0 m 124 ls (.int z :: [.ref y])) (by rw [hnn]; exact nI_1 _ : ((nI (d + wr_n w j)) + 1) = nI (d + wr_n w (j + 1)))) ?_
      refine va_put (D := (dC, dI)) (ci := 12) (v := .int (nI (d + wr_n w (j + 1)))) (ty := .int) (C := R_MO) (T := T_MO) (N := 41) hx hb htb in_MO ty_MO ty_MO_ok nm_MO hown hK hP hD hS 0 rfl rfl 13 (by decide) (htb _ m_1152) (fun _ h9 => h9) rfl (by decide +kernel) rfl rfl (Nat.le_of_ble_eq_true rfl) d_MO_write_124 (fun H locs hP hD hS => ?_)
      have hP : va_P (dC, dI) vwCl [(y, .inr (12, [.int lim, .int rm, .ref a_size, .ref a_kind, .ref a_level, .ref a_at, .ref a_len, .ref a_nameAt, .ref a_nameLen, .ref a_num, .ref a_pool, .int 0, .ref a_draft, .int (nI (d + wr_n w (j + 1))), .int 0, .int 0, .ref a_open, .int 0, .int 0, .int 0, .ref a_word, .int 0, .int 0, .int 0, .int 0, .long 0, .ref a_list, .ref a_next, .ref a_result, .int 0, .int 0, .int 0, .int 0, .int 0, .int 0, .ref a_twin, .int 0, .int 0, .int 0, .ref a_came, .ref a_closer])), (a_draft, .inl (cD, 160, .inl (upd f' (d + wr_n w j) (nI (wr_b w j)))))] H := hP
      have hD : va_D A [(y, .inr (12, [.int lim, .int rm, .ref a_size, .ref a_kind, .ref a_level, .ref a_at, .ref a_len, .ref a_nameAt, .ref a_nameLen, .ref a_num, .ref a_pool, .int 0, .ref a_draft, .int (nI (d + wr_n w (j + 1))), .int 0, .int 0, .ref a_open, .int 0, .int 0, .int 0, .ref a_word, .int 0, .int 0, .int 0, .int 0, .long 0, .ref a_list, .ref a_next, .ref a_result, .int 0, .int 0, .int 0, .int 0, .int 0, .int 0, .ref a_twin, .int 0, .int 0, .int 0, .ref a_came, .ref a_closer])), (a_draft, .inl (cD, 160, .inl (upd f' (d + wr_n w j) (nI (wr_b w j)))))] := hD
      refine lv_iload hx hb d_MO_write_127 (lv_at hl 1 rfl) ?_
      refine lv_bipush (v := 8) hx hb d_MO_write_129 (by decide) ?_
      refine lv_isub hx hb d_MO_write_131 ?_
      refine W.eq (congrArg (fun z => F0 m 132 ls (.int z :: [])) (wr_sh_sub j hj8 : ((wr_sh j) - 8) = wr_sh (j + 1))) ?_
      refine lv_istore hx hb d_MO_write_132 hl (by decide) rfl (fun ls hl => ?_)
      have hl : lv_has ls 6 [(4, .int (wr_sh (j + 1))), (5, .int (nI (wr_b w j))), (0, .ref y), (1, .long w)] := hl
      refine lv_goto (tgt := 84) hx hb d_MO_write_134 rfl ?_
      exact ih (j + 1) (by omega) H locs ls (upd f' (d + wr_n w j) (nI (wr_b w j))) (lv_sub hl [0, 2, 3] rfl) hP hD hS (fun i hi => by rw [pk_un (by omega)]; exact hf i hi) (fun i hi hi0 => by rcases Nat.lt_succ_iff_lt_or_eq.mp hi with h | rfl; rw [pk_un (by have := wr_n_lt w h hi0; omega)]; exact hv i h hi0; exact pk_us)
set_option maxHeartbeats 1000000 in
set_option maxRecDepth 100000 in
/-- the reference's write(w) -/
theorem k_MO_write (l : Launch) (dC : Nat → ClassId) (dI : Nat → Nat → Nat) (sz : Nat) (y : Nat) (lim : Int32) (rm : Int32) (a_size : Nat) (a_kind : Nat) (a_level : Nat) (a_at : Nat) (a_len : Nat) (a_nameAt : Nat) (a_nameLen : Nat) (a_num : Nat) (a_pool : Nat) (a_draft : Nat) (a_open : Nat) (a_word : Nat) (a_list : Nat) (a_next : Nat) (a_result : Nat) (a_twin : Nat) (a_came : Nat) (a_closer : Nat) (cD : ClassId) (w : Int64) (d : Nat) (f : Nat → Int32) (hd : d ≤ 160) : Met l y_MO_write ws_MO_write ({ frames := 0, cells := 0, slots := 0, locals := 0 }) (va_Pc [.ref y, .long w] (fun U => U.heap.size = sz ∧ va_P (dC, dI) vwCl [(y, .inr (12, [.int lim, .int rm, .ref a_size, .ref a_kind, .ref a_level, .ref a_at, .ref a_len, .ref a_nameAt, .ref a_nameLen, .ref a_num, .ref a_pool, .int 0, .ref a_draft, .int (nI d), .int 0, .int 0, .ref a_open, .int 0, .int 0, .int 0, .ref a_word, .int 0, .int 0, .int 0, .int 0, .long 0, .ref a_list, .ref a_next, .ref a_result, .int 0, .int 0, .int 0, .int 0, .int 0, .int 0, .ref a_twin, .int 0, .int 0, .int 0, .ref a_came, .ref a_closer])), (a_draft, .inl (cD, 160, .inl f))] U.heap ∧ va_K (dC, dI) vwCl [(cD, .char)] U ∧ va_D (fun _ => True) [(y, .inr (12, [.int lim, .int rm, .ref a_size, .ref a_kind, .ref a_level, .ref a_at, .ref a_len, .ref a_nameAt, .ref a_nameLen, .ref a_num, .ref a_pool, .int 0, .ref a_draft, .int (nI d), .int 0, .int 0, .ref a_open, .int 0, .int 0, .int 0, .ref a_word, .int 0, .int 0, .int 0, .int 0, .long 0, .ref a_list, .ref a_next, .ref a_result, .int 0, .int 0, .int 0, .int 0, .int 0, .int 0, .ref a_twin, .int 0, .int 0, .int 0, .ref a_came, .ref a_closer])), (a_draft, .inl (cD, 160, .inl f))])) (va_Qi (fun (r : Int32) (u : Nat × (Nat → Int32)) => (∀ i, i < d → u.2 i = f i) ∧ ((wr_ans w d ∧ r = 1 ∧ u.1 = d + wr_n w 8 ∧ (∀ i, i < 8 → wr_b w i ≠ 0 → u.2 (d + wr_n w i) = nI (wr_b w i))) ∨ (¬ wr_ans w d ∧ r = 0 ∧ u.1 = d))) (fun u t => va_P (dC, dI) vwCl [(y, .inr (12, [.int lim, .int rm, .ref a_size, .ref a_kind, .ref a_level, .ref a_at, .ref a_len, .ref a_nameAt, .ref a_nameLen, .ref a_num, .ref a_pool, .int 0, .ref a_draft, .int (nI u.1), .int 0, .int 0, .ref a_open, .int 0, .int 0, .int 0, .ref a_word, .int 0, .int 0, .int 0, .int 0, .long 0, .ref a_list, .ref a_next, .ref a_result, .int 0, .int 0, .int 0, .int 0, .int 0, .int 0, .ref a_twin, .int 0, .int 0, .int 0, .ref a_came, .ref a_closer])), (a_draft, .inl (cD, 160, .inl u.2))] t.heap ∧ va_K (dC, dI) vwCl [(cD, .char)] t ∧ va_D (va_A [(y, .inr (12, [.int lim, .int rm, .ref a_size, .ref a_kind, .ref a_level, .ref a_at, .ref a_len, .ref a_nameAt, .ref a_nameLen, .ref a_num, .ref a_pool, .int 0, .ref a_draft, .int (nI d), .int 0, .int 0, .ref a_open, .int 0, .int 0, .int 0, .ref a_word, .int 0, .int 0, .int 0, .int 0, .long 0, .ref a_list, .ref a_next, .ref a_result, .int 0, .int 0, .int 0, .int 0, .int 0, .int 0, .ref a_twin, .int 0, .int 0, .int 0, .ref a_came, .ref a_closer])), (a_draft, .inl (cD, 160, .inl f))] sz) [(y, .inr (12, [.int lim, .int rm, .ref a_size, .ref a_kind, .ref a_level, .ref a_at, .ref a_len, .ref a_nameAt, .ref a_nameLen, .ref a_num, .ref a_pool, .int 0, .ref a_draft, .int (nI u.1), .int 0, .int 0, .ref a_open, .int 0, .int 0, .int 0, .ref a_word, .int 0, .int 0, .int 0, .int 0, .long 0, .ref a_list, .ref a_next, .ref a_result, .int 0, .int 0, .int 0, .int 0, .int 0, .int 0, .ref a_twin, .int 0, .int 0, .int 0, .ref a_came, .ref a_closer])), (a_draft, .inl (cD, 160, .inl u.2))]) (va_A [(y, .inr (12, [.int lim, .int rm, .ref a_size, .ref a_kind, .ref a_level, .ref a_at, .ref a_len, .ref a_nameAt, .ref a_nameLen, .ref a_num, .ref a_pool, .int 0, .ref a_draft, .int (nI d), .int 0, .int 0, .ref a_open, .int 0, .int 0, .int 0, .ref a_word, .int 0, .int 0, .int 0, .int 0, .long 0, .ref a_list, .ref a_next, .ref a_result, .int 0, .int 0, .int 0, .int 0, .int 0, .int 0, .ref a_twin, .int 0, .int 0, .int 0, .ref a_came, .ref a_closer])), (a_draft, .inl (cD, 160, .inl f))] sz)) 0 0 (va_A [(y, .inr (12, [.int lim, .int rm, .ref a_size, .ref a_kind, .ref a_level, .ref a_at, .ref a_len, .ref a_nameAt, .ref a_nameLen, .ref a_num, .ref a_pool, .int 0, .ref a_draft, .int (nI d), .int 0, .int 0, .ref a_open, .int 0, .int 0, .int 0, .ref a_word, .int 0, .int 0, .int 0, .int 0, .long 0, .ref a_list, .ref a_next, .ref a_result, .int 0, .int 0, .int 0, .int 0, .int 0, .int 0, .ref a_twin, .int 0, .int 0, .int 0, .ref a_came, .ref a_closer])), (a_draft, .inl (cD, 160, .inl f))] sz) := by
  refine Met.ofW (cc := c_MO_write) (maxL := 6) (ret := (some .boolean)) (by decide) rfl ?_
  intro p e s m args below meth c s₁ B hml hv
  obtain ⟨rfl, hsz, hP, hK, hD0⟩ := hv
  have hx := B.exec
  have hb := B.bytes
  have hr := B.returns
  have hts := atoms_spec (ws := ws_MO_write) B.pre
  have htb := fun w (h : w ∈ TBL) => hts w (List.mem_cons_of_mem _ h)
  have hown : s.vm.findClass R_MO = some m.cls := findClass_of_methodNamed B.named
  have hlocks := B.notSynchronized
  subst hsz
  have hD := hD0.self (sz := s.heap.size)
  generalize hAe : va_A [(y, .inr (12, [.int lim, .int rm, .ref a_size, .ref a_kind, .ref a_level, .ref a_at, .ref a_len, .ref a_nameAt, .ref a_nameLen, .ref a_num, .ref a_pool, .int 0, .ref a_draft, .int (nI d), .int 0, .int 0, .ref a_open, .int 0, .int 0, .int 0, .ref a_word, .int 0, .int 0, .int 0, .int 0, .long 0, .ref a_list, .ref a_next, .ref a_result, .int 0, .int 0, .int 0, .int 0, .int 0, .int 0, .ref a_twin, .int 0, .int 0, .int 0, .ref a_came, .ref a_closer])), (a_draft, .inl (cD, 160, .inl f))] s.heap.size = A at hD ⊢
  have hA : ∀ q : Nat, s.heap.size ≤ q → A q := fun q h => by rw [← hAe]; exact Or.inr h
  have hS : va_S A s.heap s.heap [] := va_S.rf
  have hP : va_P (dC, dI) vwCl [(y, .inr (12, [.int lim, .int rm, .ref a_size, .ref a_kind, .ref a_level, .ref a_at, .ref a_len, .ref a_nameAt, .ref a_nameLen, .ref a_num, .ref a_pool, .int 0, .ref a_draft, .int (nI d), .int 0, .int 0, .ref a_open, .int 0, .int 0, .int 0, .ref a_word, .int 0, .int 0, .int 0, .int 0, .long 0, .ref a_list, .ref a_next, .ref a_result, .int 0, .int 0, .int 0, .int 0, .int 0, .int 0, .ref a_twin, .int 0, .int 0, .int 0, .ref a_came, .ref a_closer])), (a_draft, .inl (cD, 160, .inl f))] s.heap := hP
  have hl := lv_entry ([.ref y, .long w]) (n := 6) (Nat.le_of_ble_eq_true rfl)
  rw [lg_entry_eq]
  generalize (lg_sl ([.ref y, .long w]) ++ List.replicate (6 - (lg_sl ([.ref y, .long w])).length) Slot.unset).toArray = ls at hl ⊢
  have hl : lv_has ls 6 [(0, .ref y), (1, .long w)] := hl
  refine lv_iconst (v := 0) hx hb d_MO_write_0 (by decide) ?_
  refine lv_istore_n hx hb d_MO_write_1 rfl hl (by decide) rfl (fun ls hl => ?_)
  have hl : lv_has ls 6 [(3, .int 0), (0, .ref y), (1, .long w)] := hl
  refine lv_bipush (v := 56) hx hb d_MO_write_2 (by decide) ?_
  refine lv_istore hx hb d_MO_write_4 hl (by decide) rfl (fun ls hl => ?_)
  have hl : lv_has ls 6 [(4, .int 56), (3, .int 0), (0, .ref y), (1, .long w)] := hl
  have hn8 := wr_n_le w 8
  refine lp_MO_write1 (dC := dC) (dI := dI) (A := A) (H0 := s.heap) (w := w) (y := y) hx hb hown htb ?_ ?_ 8 0 rfl ls (lv_sub hl [0, 1, 2, 3] rfl) (fun _ h => absurd h (Nat.not_lt_zero _))
  · intro ls hl hg
    refine lv_aload_n hx hb d_MO_write_66 rfl (lv_at hl 1 rfl) ?_
    refine va_get (D := (dC, dI)) (ci := 12) (v := .int (nI d)) (C := R_MO) (T := T_MO) (N := 41) hx hb htb in_MO hown hK hP 0 rfl rfl 13 (by decide) (htb _ m_1152) (fun _ h9 => h9) rfl d_MO_write_67 ?_
    refine lv_iload_n hx hb d_MO_write_70 rfl (lv_at hl 0 rfl) ?_
    refine lv_iadd hx hb d_MO_write_71 ?_
    refine W.eq (congrArg (fun z => F0 m 72 ls (.int z :: [])) (nI_add _ _ : ((nI d) + (nI (wr_n w 8))) = nI (d + wr_n w 8))) ?_
    refine lv_sipush (v := 160) hx hb d_MO_write_72 (by decide) ?_
    refine lv_icmp_le (tgt := 80) hx hb d_MO_write_75 rfl (fun h1 => ?_) (fun h1 => ?_)
    · have hroom : d + wr_n w 8 ≤ 160 := by have h9 : nI (d + wr_n w 8) ≤ nI 160 := h1; exact (nI_leI (by omega) (by decide)).mp h9
      refine lv_bipush (v := 56) hx hb d_MO_write_80 (by decide) ?_
      refine lv_istore hx hb d_MO_write_82 hl (by decide) rfl (fun ls hl => ?_)
      have hl : lv_has ls 6 [(4, .int 56), (3, .int (nI (wr_n w 8))), (0, .ref y), (1, .long w)] := hl
      refine lp_MO_write2 (d := d) (f := f) (w := w) hx hb hown htb hK hroom ?_ 8 0 rfl s.heap [] ls f (lv_sub hl [0, 2, 3] rfl) hP hD hS (fun _ _ => rfl) (fun _ h => absurd h (Nat.not_lt_zero _))
      intro H locs ls f' hP hD hS hf hv
      refine lv_iconst (v := 1) hx hb d_MO_write_137 (by decide) ?_
      have hP9 := hP.sub (ws' := [(y, .inr (12, [.int lim, .int rm, .ref a_size, .ref a_kind, .ref a_level, .ref a_at, .ref a_len, .ref a_nameAt, .ref a_nameLen, .ref a_num, .ref a_pool, .int 0, .ref a_draft, .int (nI (d + wr_n w 8)), .int 0, .int 0, .ref a_open, .int 0, .int 0, .int 0, .ref a_word, .int 0, .int 0, .int 0, .int 0, .long 0, .ref a_list, .ref a_next, .ref a_result, .int 0, .int 0, .int 0, .int 0, .int 0, .int 0, .ref a_twin, .int 0, .int 0, .int 0, .ref a_came, .ref a_closer])), (a_draft, .inl (cD, 160, .inl f'))]) [0, 1] rfl
      have hD9 := hD.sub (ws' := [(y, .inr (12, [.int lim, .int rm, .ref a_size, .ref a_kind, .ref a_level, .ref a_at, .ref a_len, .ref a_nameAt, .ref a_nameLen, .ref a_num, .ref a_pool, .int 0, .ref a_draft, .int (nI (d + wr_n w 8)), .int 0, .int 0, .ref a_open, .int 0, .int 0, .int 0, .ref a_word, .int 0, .int 0, .int 0, .int 0, .long 0, .ref a_list, .ref a_next, .ref a_result, .int 0, .int 0, .int 0, .int 0, .int 0, .int 0, .ref a_twin, .int 0, .int 0, .int 0, .ref a_came, .ref a_closer])), (a_draft, .inl (cD, 160, .inl f'))]) [0, 1] (by decide) rfl
      have hK9 := hK.sub (tys' := [(cD, .char)]) [0] rfl
      refine W.widen (k := 0) (n := 0) (Nat.le_of_ble_eq_true rfl) (Nat.le_of_ble_eq_true rfl) ?_
      exact W.zret (v := 1) hx hb hr (by decide) (fun t ht hW => ⟨⟨1, (d + wr_n w 8, f'), rfl, ⟨hf, Or.inl ⟨⟨hg, hroom⟩, rfl, rfl, hv⟩⟩, ⟨by rw [ht]; exact hP9, va_K.moved hW.alike hK9, hD9⟩⟩, hS.F ht⟩) hS.2.2 d_MO_write_138
    · refine lv_iconst (v := 0) hx hb d_MO_write_78 (by decide) ?_
      have hP9 := hP.sub (ws' := [(y, .inr (12, [.int lim, .int rm, .ref a_size, .ref a_kind, .ref a_level, .ref a_at, .ref a_len, .ref a_nameAt, .ref a_nameLen, .ref a_num, .ref a_pool, .int 0, .ref a_draft, .int (nI d), .int 0, .int 0, .ref a_open, .int 0, .int 0, .int 0, .ref a_word, .int 0, .int 0, .int 0, .int 0, .long 0, .ref a_list, .ref a_next, .ref a_result, .int 0, .int 0, .int 0, .int 0, .int 0, .int 0, .ref a_twin, .int 0, .int 0, .int 0, .ref a_came, .ref a_closer])), (a_draft, .inl (cD, 160, .inl f))]) [0, 1] rfl
      have hD9 := hD.sub (ws' := [(y, .inr (12, [.int lim, .int rm, .ref a_size, .ref a_kind, .ref a_level, .ref a_at, .ref a_len, .ref a_nameAt, .ref a_nameLen, .ref a_num, .ref a_pool, .int 0, .ref a_draft, .int (nI d), .int 0, .int 0, .ref a_open, .int 0, .int 0, .int 0, .ref a_word, .int 0, .int 0, .int 0, .int 0, .long 0, .ref a_list, .ref a_next, .ref a_result, .int 0, .int 0, .int 0, .int 0, .int 0, .int 0, .ref a_twin, .int 0, .int 0, .int 0, .ref a_came, .ref a_closer])), (a_draft, .inl (cD, 160, .inl f))]) [0, 1] (by decide) rfl
      have hK9 := hK.sub (tys' := [(cD, .char)]) [0] rfl
      refine W.widen (k := 0) (n := 0) (Nat.le_of_ble_eq_true rfl) (Nat.le_of_ble_eq_true rfl) ?_
      exact W.zret (v := 0) hx hb hr (by decide) (fun t ht hW => ⟨⟨0, (d, f), rfl, ⟨fun _ _ => rfl, Or.inr ⟨fun h => h1 (nI_leI (by omega) (by decide) |>.mpr h.2), rfl, rfl⟩⟩, ⟨by rw [ht]; exact hP9, va_K.moved hW.alike hK9, hD9⟩⟩, hS.F ht⟩) hS.2.2 d_MO_write_79
  · intro ls hg
    refine lv_iconst (v := 0) hx hb d_MO_write_41 (by decide) ?_
    have hP9 := hP.sub (ws' := [(y, .inr (12, [.int lim, .int rm, .ref a_size, .ref a_kind, .ref a_level, .ref a_at, .ref a_len, .ref a_nameAt, .ref a_nameLen, .ref a_num, .ref a_pool, .int 0, .ref a_draft, .int (nI d), .int 0, .int 0, .ref a_open, .int 0, .int 0, .int 0, .ref a_word, .int 0, .int 0, .int 0, .int 0, .long 0, .ref a_list, .ref a_next, .ref a_result, .int 0, .int 0, .int 0, .int 0, .int 0, .int 0, .ref a_twin, .int 0, .int 0, .int 0, .ref a_came, .ref a_closer])), (a_draft, .inl (cD, 160, .inl f))]) [0, 1] rfl
    have hD9 := hD.sub (ws' := [(y, .inr (12, [.int lim, .int rm, .ref a_size, .ref a_kind, .ref a_level, .ref a_at, .ref a_len, .ref a_nameAt, .ref a_nameLen, .ref a_num, .ref a_pool, .int 0, .ref a_draft, .int (nI d), .int 0, .int 0, .ref a_open, .int 0, .int 0, .int 0, .ref a_word, .int 0, .int 0, .int 0, .int 0, .long 0, .ref a_list, .ref a_next, .ref a_result, .int 0, .int 0, .int 0, .int 0, .int 0, .int 0, .ref a_twin, .int 0, .int 0, .int 0, .ref a_came, .ref a_closer])), (a_draft, .inl (cD, 160, .inl f))]) [0, 1] (by decide) rfl
    have hK9 := hK.sub (tys' := [(cD, .char)]) [0] rfl
    refine W.widen (k := 0) (n := 0) (Nat.le_of_ble_eq_true rfl) (Nat.le_of_ble_eq_true rfl) ?_
    exact W.zret (v := 0) hx hb hr (by decide) (fun t ht hW => ⟨⟨0, (d, f), rfl, ⟨fun _ _ => rfl, Or.inr ⟨fun h => hg h.1, rfl, rfl⟩⟩, ⟨by rw [ht]; exact hP9, va_K.moved hW.alike hK9, hD9⟩⟩, hS.F ht⟩) hS.2.2 d_MO_write_42
